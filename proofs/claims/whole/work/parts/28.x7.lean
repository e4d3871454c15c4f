abbrev rm_X1_tells : Room := { frames := 9, cells := 0, slots := 0, locals := 196 }
def f_X1_tells (h : hp) (o : Nat) (p0 : Int32) (p1 : Nat) : Option (hp × Int32) := (ckO 1 h p1 1
 (bnd (f_J4_append_cf468 h p1 (40 : Int32)) fun h2 r3 =>
 (ckS h2 o
 (bnd (f_X4_tells h2 o p0 p1) fun h6 r7 =>
 (ckS h6 o
 (bnd (f_DN_sends h6 o (1 : Int32) p1) fun h10 r11 =>
 (some (h10, (r7 + r11)))))))))
set_option maxRecDepth 100000 in
set_option maxHeartbeats 4000000 in
theorem k_X1_tells {ω : XO} (hω : ω.2.2.2.1 = 1) {L : List Nat} {q : Nat → Nat} {h h' : hp} {o : Nat} {p0 : Int32} {p1 : Nat} {r : Int32} (hf : f_X1_tells h o p0 p1 = some (h', r)) : XM ω yX1_tells cX1_tells 3 (some .int) rm_X1_tells L q h [.ref (q o), .int p0, .ref (q p1)] (some (.int r)) h' := by
  refine XM_intro [(0, .ref (q o)), (1, .int p0), (2, .ref (q p1))] "SignalBlind$Nurse" (by decide) rfl rfl (Nat.le_of_ble_eq_true rfl) (fun κ X R => ?_)
  unfold f_X1_tells at hf
  refine x_aload_n X dX1_tells_0 2 rfl rfl ?_
  refine x_bipush X (v := 40) dX1_tells_1 (by decide) ?_
  obtain ⟨b1, hf⟩ := ckO_some hf
  obtain ⟨h2, r3, g4, hf⟩ := bnd_some hf
  refine c_X1_7 X hω g4 (sd_of hω b1.1) b1.2 (hR := ⟨Nat.le_of_ble_eq_true rfl, Nat.le_of_ble_eq_true rfl⟩) ⟨Nat.zero_le _, Nat.zero_le _⟩ (Nat.le_of_ble_eq_true rfl) dX1_tells_3 ?_
  refine x_pop X dX1_tells_6 rfl ?_
  refine x_aload_n X dX1_tells_7 0 rfl rfl ?_
  refine x_iload_n X dX1_tells_8 1 rfl rfl ?_
  refine x_aload_n X dX1_tells_9 2 rfl rfl ?_
  obtain ⟨b5, hf⟩ := ckS_some hf
  obtain ⟨h6, r7, g8, hf⟩ := bnd_some hf
  refine c_X1_13 X hω g8 b5 (hR := ⟨Nat.le_of_ble_eq_true rfl, Nat.le_of_ble_eq_true rfl⟩) ⟨Nat.zero_le _, Nat.zero_le _⟩ (Nat.le_of_ble_eq_true rfl) dX1_tells_10 ?_
  refine x_aload_n X dX1_tells_13 0 rfl rfl ?_
  refine x_iconst X (v := 1) dX1_tells_14 (by decide) ?_
  refine x_aload_n X dX1_tells_15 2 rfl rfl ?_
  obtain ⟨b9, hf⟩ := ckS_some hf
  obtain ⟨h10, r11, g12, hf⟩ := bnd_some hf
  refine cd_X1_17 X hω (sd_of hω b9.1) g12 (hR := ⟨Nat.le_of_ble_eq_true rfl, Nat.le_of_ble_eq_true rfl⟩) ⟨Nat.zero_le _, Nat.zero_le _⟩ (Nat.le_of_ble_eq_true rfl) dX1_tells_16 ?_
  refine x_iadd X dX1_tells_19 ?_
  exact x_retSI X R hf dX1_tells_20

abbrev rm_X10_tells : Room := { frames := 9, cells := 0, slots := 0, locals := 196 }
def f_X10_tells (h : hp) (o : Nat) (p0 : Int32) (p1 : Nat) : Option (hp × Int32) := (ckO 1 h p1 1
 (bnd (f_J4_append_cf468 h p1 (60 : Int32)) fun h2 r3 =>
 (ckO 1 h2 o 12
 (ckS h2 o
 (bnd (f_X4_tells h2 o (p0 - (hI h2 o 0)) p1) fun h7 r8 =>
 (some (h7, r8)))))))
set_option maxRecDepth 100000 in
set_option maxHeartbeats 4000000 in
theorem k_X10_tells {ω : XO} (hω : ω.2.2.2.1 = 1) {L : List Nat} {q : Nat → Nat} {h h' : hp} {o : Nat} {p0 : Int32} {p1 : Nat} {r : Int32} (hf : f_X10_tells h o p0 p1 = some (h', r)) : XM ω yX10_tells cX10_tells 3 (some .int) rm_X10_tells L q h [.ref (q o), .int p0, .ref (q p1)] (some (.int r)) h' := by
  refine XM_intro [(0, .ref (q o)), (1, .int p0), (2, .ref (q p1))] "SignalBlind$Wind" (by decide) rfl rfl (Nat.le_of_ble_eq_true rfl) (fun κ X R => ?_)
  unfold f_X10_tells at hf
  refine x_aload_n X dX10_tells_0 2 rfl rfl ?_
  refine x_bipush X (v := 60) dX10_tells_1 (by decide) ?_
  obtain ⟨b1, hf⟩ := ckO_some hf
  obtain ⟨h2, r3, g4, hf⟩ := bnd_some hf
  refine c_X10_11 X hω g4 (sd_of hω b1.1) b1.2 (hR := ⟨Nat.le_of_ble_eq_true rfl, Nat.le_of_ble_eq_true rfl⟩) ⟨Nat.zero_le _, Nat.zero_le _⟩ (Nat.le_of_ble_eq_true rfl) dX10_tells_3 ?_
  refine x_pop X dX10_tells_6 rfl ?_
  refine x_aload_n X dX10_tells_7 0 rfl rfl ?_
  refine x_iload_n X dX10_tells_8 1 rfl rfl ?_
  refine x_aload_n X dX10_tells_9 0 rfl rfl ?_
  obtain ⟨b5, hf⟩ := ckO_some hf
  refine x_geti X (i := o) fl_X10_17_11 (sd_of hω b5.1) b5.2 rfl dX10_tells_10 ?_
  refine x_isub X dX10_tells_13 ?_
  refine x_aload_n X dX10_tells_14 2 rfl rfl ?_
  obtain ⟨b6, hf⟩ := ckS_some hf
  obtain ⟨h7, r8, g9, hf⟩ := bnd_some hf
  refine c_X10_23 X hω g9 b6 (hR := ⟨Nat.le_of_ble_eq_true rfl, Nat.le_of_ble_eq_true rfl⟩) ⟨Nat.zero_le _, Nat.zero_le _⟩ (Nat.le_of_ble_eq_true rfl) dX10_tells_15 ?_
  exact x_retSI X R hf dX10_tells_18

abbrev rm_D_tells : Room := { frames := 9, cells := 0, slots := 0, locals := 218 }
def f_D_tells (h : hp) (o : Nat) (a : Int32) (t : Nat) : Option (hp × Int32) := if kdOf h o = 2 then f_X4_tells h o a t else if kdOf h o = 3 then f_X1_tells h o a t else if kdOf h o = 6 then f_X4_tells h o a t else if kdOf h o = 7 then f_X4_tells h o a t else if kdOf h o = 9 then f_X4_tells h o a t else if kdOf h o = 10 then f_X1_tells h o a t else if kdOf h o = 12 then f_X10_tells h o a t else none
theorem cd_X11_242 {ω : XO} {rm : Room} {nL : Nat} {κ : XK} {cc : ByteArray} (X : XC ω rm nL κ cc "SignalBlind") (hω : ω.2.2.2.1 = 1) {L : List Nat} {q : Nat → Nat} {h h1 : hp} {cells slots pc : Nat} {lv : List (Nat × Value)} {rest : List Value} {o : Nat} {a : Int32} {tr : Nat} {r : Int32} (hso : sd ω.2.2.2.1 o = true) (hf : f_D_tells h o a tr = some (h1, r)) (hR : rm_D_tells.frames + 1 ≤ rm.frames ∧ rm_D_tells.locals ≤ rm.locals) (hcs : cells ≤ rm.cells ∧ slots ≤ rm.slots) (hroom : (rest.map fun v => v.category).sum ≤ 8) (hd : decode cc pc = .ok (.invokevirtual 242, 3)) (kk : XG ω rm nL κ L q h1 cells slots (pc + 3) lv (.int r :: rest)) : XG ω rm nL κ L q h cells slots pc lv (.ref (q tr) :: .int a :: .ref (q o) :: rest) := by
  unfold f_D_tells at hf
  by_cases k2 : kdOf h o = 2
  · replace hf := (if_pos k2).symm.trans hf
    exact x_callU (owner := "SignalBlind$Sender") (x := yX4_tells) X [.int a, .ref (q tr)] rest (k_X4_tells hω hf) (by intro w hw; simp only [List.mem_cons, List.not_mem_nil, or_false] at hw; rcases hw with rfl | rfl | rfl | rfl | rfl <;> first | exact (mT_4 189 rfl rfl) | exact (mT_4 192 rfl rfl) | exact (mT_4 193 rfl rfl) | exact (mT_4 190 rfl rfl) | exact (mT_1 11 rfl rfl)) (mT_4 212 rfl rfl) rfl ⟨by decide, by decide, (by decide : (parseMethodDescriptor yX4_tells.desc).map (fun d => d.parameters.length) = some 2)⟩ ⟨Nat.le_trans (Nat.add_le_add_right (Nat.le_of_ble_eq_true rfl : rm_X4_tells.frames ≤ rm_D_tells.frames) 1) hR.1, Nat.le_trans (Nat.le_of_ble_eq_true rfl : 8 + (3 + 11) + rm_X4_tells.locals ≤ rm_D_tells.locals) hR.2⟩ ⟨rfl, rfl⟩ hcs hso k2 (by decide) rfl rfl hroom hd kk
  replace hf := (if_neg k2).symm.trans hf
  by_cases k3 : kdOf h o = 3
  · replace hf := (if_pos k3).symm.trans hf
    exact x_callO (owner := "SignalBlind$Sender") (x := yX4_tells) X [.int a, .ref (q tr)] rest (k_X1_tells hω hf) (by intro w hw; simp only [List.mem_cons, List.not_mem_nil, or_false] at hw; rcases hw with rfl | rfl | rfl | rfl | rfl | rfl <;> first | exact (mT_4 189 rfl rfl) | exact (mT_4 192 rfl rfl) | exact (mT_4 190 rfl rfl) | exact (mT_4 194 rfl rfl) | exact (mT_4 195 rfl rfl) | exact (mT_1 14 rfl rfl)) (mT_4 196 rfl rfl) (mT_4 212 rfl rfl) ⟨by decide, by decide, (by decide : (parseMethodDescriptor yX4_tells.desc).map (fun d => d.parameters.length) = some 2)⟩ ⟨Nat.le_trans (Nat.add_le_add_right (Nat.le_of_ble_eq_true rfl : rm_X1_tells.frames ≤ rm_D_tells.frames) 1) hR.1, Nat.le_trans (Nat.le_of_ble_eq_true rfl : 8 + (3 + 11) + rm_X1_tells.locals ≤ rm_D_tells.locals) hR.2⟩ ⟨rfl, rfl⟩ hcs hso k3 (by decide) rfl rfl hroom hd kk
  replace hf := (if_neg k3).symm.trans hf
  by_cases k6 : kdOf h o = 6
  · replace hf := (if_pos k6).symm.trans hf
    exact x_callV X [.int a, .ref (q tr)] rest (k_X4_tells hω hf) mt_X4_tells (mT_4 189 rfl rfl) ⟨Nat.le_trans (Nat.add_le_add_right (Nat.le_of_ble_eq_true rfl : rm_X4_tells.frames ≤ rm_D_tells.frames) 1) hR.1, Nat.le_trans (Nat.le_of_ble_eq_true rfl : 8 + (3 + 11) + rm_X4_tells.locals ≤ rm_D_tells.locals) hR.2⟩ ⟨rfl, rfl⟩ hcs hso k6 (by decide) rfl rfl hroom hd kk
  replace hf := (if_neg k6).symm.trans hf
  by_cases k7 : kdOf h o = 7
  · replace hf := (if_pos k7).symm.trans hf
    exact x_callU (owner := "SignalBlind$Sender") (x := yX4_tells) X [.int a, .ref (q tr)] rest (k_X4_tells hω hf) (by intro w hw; simp only [List.mem_cons, List.not_mem_nil, or_false] at hw; rcases hw with rfl | rfl | rfl | rfl | rfl <;> first | exact (mT_4 189 rfl rfl) | exact (mT_4 192 rfl rfl) | exact (mT_4 202 rfl rfl) | exact (mT_4 190 rfl rfl) | exact (mT_1 11 rfl rfl)) (mT_4 212 rfl rfl) rfl ⟨by decide, by decide, (by decide : (parseMethodDescriptor yX4_tells.desc).map (fun d => d.parameters.length) = some 2)⟩ ⟨Nat.le_trans (Nat.add_le_add_right (Nat.le_of_ble_eq_true rfl : rm_X4_tells.frames ≤ rm_D_tells.frames) 1) hR.1, Nat.le_trans (Nat.le_of_ble_eq_true rfl : 8 + (3 + 11) + rm_X4_tells.locals ≤ rm_D_tells.locals) hR.2⟩ ⟨rfl, rfl⟩ hcs hso k7 (by decide) rfl rfl hroom hd kk
  replace hf := (if_neg k7).symm.trans hf
  by_cases k9 : kdOf h o = 9
  · replace hf := (if_pos k9).symm.trans hf
    exact x_callU (owner := "SignalBlind$Sender") (x := yX4_tells) X [.int a, .ref (q tr)] rest (k_X4_tells hω hf) (by intro w hw; simp only [List.mem_cons, List.not_mem_nil, or_false] at hw; rcases hw with rfl | rfl | rfl | rfl | rfl <;> first | exact (mT_4 189 rfl rfl) | exact (mT_4 192 rfl rfl) | exact (mT_4 203 rfl rfl) | exact (mT_4 190 rfl rfl) | exact (mT_1 11 rfl rfl)) (mT_4 212 rfl rfl) rfl ⟨by decide, by decide, (by decide : (parseMethodDescriptor yX4_tells.desc).map (fun d => d.parameters.length) = some 2)⟩ ⟨Nat.le_trans (Nat.add_le_add_right (Nat.le_of_ble_eq_true rfl : rm_X4_tells.frames ≤ rm_D_tells.frames) 1) hR.1, Nat.le_trans (Nat.le_of_ble_eq_true rfl : 8 + (3 + 11) + rm_X4_tells.locals ≤ rm_D_tells.locals) hR.2⟩ ⟨rfl, rfl⟩ hcs hso k9 (by decide) rfl rfl hroom hd kk
  replace hf := (if_neg k9).symm.trans hf
  by_cases k10 : kdOf h o = 10
  · replace hf := (if_pos k10).symm.trans hf
    exact x_callO (owner := "SignalBlind$Sender") (x := yX4_tells) X [.int a, .ref (q tr)] rest (k_X1_tells hω hf) (by intro w hw; simp only [List.mem_cons, List.not_mem_nil, or_false] at hw; rcases hw with rfl | rfl | rfl | rfl | rfl | rfl <;> first | exact (mT_4 189 rfl rfl) | exact (mT_4 192 rfl rfl) | exact (mT_4 190 rfl rfl) | exact (mT_4 204 rfl rfl) | exact (mT_4 195 rfl rfl) | exact (mT_1 14 rfl rfl)) (mT_4 196 rfl rfl) (mT_4 212 rfl rfl) ⟨by decide, by decide, (by decide : (parseMethodDescriptor yX4_tells.desc).map (fun d => d.parameters.length) = some 2)⟩ ⟨Nat.le_trans (Nat.add_le_add_right (Nat.le_of_ble_eq_true rfl : rm_X1_tells.frames ≤ rm_D_tells.frames) 1) hR.1, Nat.le_trans (Nat.le_of_ble_eq_true rfl : 8 + (3 + 11) + rm_X1_tells.locals ≤ rm_D_tells.locals) hR.2⟩ ⟨rfl, rfl⟩ hcs hso k10 (by decide) rfl rfl hroom hd kk
  replace hf := (if_neg k10).symm.trans hf
  by_cases k12 : kdOf h o = 12
  · replace hf := (if_pos k12).symm.trans hf
    exact x_callO (owner := "SignalBlind$Sender") (x := yX4_tells) X [.int a, .ref (q tr)] rest (k_X10_tells hω hf) (by intro w hw; simp only [List.mem_cons, List.not_mem_nil, or_false] at hw; rcases hw with rfl | rfl | rfl | rfl | rfl | rfl <;> first | exact (mT_4 189 rfl rfl) | exact (mT_4 192 rfl rfl) | exact (mT_4 190 rfl rfl) | exact (mT_4 205 rfl rfl) | exact (mT_4 206 rfl rfl) | exact (mT_1 16 rfl rfl)) (mT_4 207 rfl rfl) (mT_4 212 rfl rfl) ⟨by decide, by decide, (by decide : (parseMethodDescriptor yX4_tells.desc).map (fun d => d.parameters.length) = some 2)⟩ ⟨Nat.le_trans (Nat.add_le_add_right (Nat.le_of_ble_eq_true rfl : rm_X10_tells.frames ≤ rm_D_tells.frames) 1) hR.1, Nat.le_trans (Nat.le_of_ble_eq_true rfl : 8 + (3 + 11) + rm_X10_tells.locals ≤ rm_D_tells.locals) hR.2⟩ ⟨rfl, rfl⟩ hcs hso k12 (by decide) rfl rfl hroom hd kk
  replace hf := (if_neg k12).symm.trans hf
  cases hf

abbrev rm_X11_act : Room := { frames := 10, cells := 0, slots := 0, locals := 218 }
def f_X11_act (h : hp) (p0 : Int32) (p1 : Int32) (p2 : Int32) : Option (hp × Int32) := (bnd (f_J4_setLength_d00df h 33 (0 : Int32)) fun h1 _ =>
 (bnr (f_X11_isSender h1 p0) fun r3 =>
 (if r3 = 0 then
 (some (h1, (0 : Int32)))
 else
 (chk p0 5
 (onO (aR h1 4 (p0).toNatClampNeg) none fun i7 =>
 (if p1 = (0 : Int32) then
 (ckS h1 i7
 (bnd (f_D_tilts h1 i7 p2 33) fun h10 r11 =>
 (some (h10, r11))))
 else
 (if p1 = (1 : Int32) then
 (ckS h1 i7
 (bnd (f_D_sends h1 i7 p2 33) fun h15 r16 =>
 (some (h15, r16))))
 else
 (if p1 = (2 : Int32) then
 (ckS h1 i7
 (bnd (f_D_tells h1 i7 p2 33) fun h20 r21 =>
 (some (h20, r21))))
 else
 (some (h1, (0 : Int32)))))))))))
set_option maxRecDepth 100000 in
set_option maxHeartbeats 4000000 in
theorem k_X11_act {ω : XO} (hω : ω.2.2.2.1 = 1) {L : List Nat} {q : Nat → Nat} {h h' : hp} {p0 : Int32} {p1 : Int32} {p2 : Int32} {r : Int32} (hf : f_X11_act h p0 p1 p2 = some (h', r)) : XM ω yX11_act cX11_act 5 (some .int) rm_X11_act L q h [.ref (q 0), .int p0, .int p1, .int p2] (some (.int r)) h' := by
  refine XM_intro [(0, .ref (q 0)), (1, .int p0), (2, .int p1), (3, .int p2)] "SignalBlind" (by decide) rfl rfl (Nat.le_of_ble_eq_true rfl) (fun κ X R => ?_)
  unfold f_X11_act at hf
  refine x_aload_n X dX11_act_0 0 rfl rfl ?_
  refine x_getsj X (i := 0) 33 fl_X11_54_12 (sdX_0 hω) (ks_0 _) rfl (j := 33) rfl dX11_act_1 ?_
  refine x_iconst X (v := 0) dX11_act_4 (by decide) ?_
  obtain ⟨h1, uh1, g2, hf⟩ := bnd_some hf
  refine c_X11_232 X hω g2 (sdX_33 hω) (ks_33 _) (hR := ⟨Nat.le_of_ble_eq_true rfl, Nat.le_of_ble_eq_true rfl⟩) ⟨Nat.zero_le _, Nat.zero_le _⟩ (Nat.le_of_ble_eq_true rfl) dX11_act_5 ?_
  refine x_aload_n X dX11_act_8 0 rfl rfl ?_
  refine x_iload_n X dX11_act_9 1 rfl rfl ?_
  obtain ⟨r3, g4, hf⟩ := bnr_some hf
  refine c_X11_112 X hω g4 (hR := ⟨Nat.le_of_ble_eq_true rfl, Nat.le_of_ble_eq_true rfl⟩) ⟨Nat.zero_le _, Nat.zero_le _⟩ (Nat.le_of_ble_eq_true rfl) dX11_act_10 ?_
  refine x_if_ne X 18 dX11_act_13 (by decide) (fun c5 => ?_) (fun c5 => ?_)
  · replace hf := (if_pos c5).symm.trans hf
    refine x_iconst X (v := 0) dX11_act_16 (by decide) ?_
    exact x_retSI X R hf dX11_act_17
  · replace hf := (if_neg c5).symm.trans hf
    refine x_aload_n X dX11_act_18 0 rfl rfl ?_
    refine x_getsj X (i := 0) 1 fl_X11_14_12 (sdX_0 hω) (ks_0 _) rfl (j := 1) rfl dX11_act_19 ?_
    refine x_getsj X (i := 1) 3 fl_X11_115_4 (sdX_1 hω) (ks_1 _) rfl (j := 4) rfl dX11_act_22 ?_
    refine x_iload_n X dX11_act_25 1 rfl rfl ?_
    obtain ⟨z6, hf⟩ := chk_some hf
    refine x_aald X (i := 4) (n := 5) (e := 4) (by decide) (sdX_4 hω) (ks_4 _) z6 dX11_act_26 ?_
    obtain ⟨i7, ei7, hf⟩ := onO_some hf
    refine x_nn ei7 ?_
    refine x_astore X [(4, .ref (q i7)), (0, .ref (q 0)), (1, .int p0), (2, .int p1), (3, .int p2)] dX11_act_27 (Nat.le_of_ble_eq_true rfl) rfl ?_
    refine x_iload_n X dX11_act_29 3 rfl rfl ?_
    by_cases s8 : p1 = (0 : Int32)
    · replace hf := (if_pos s8).symm.trans hf
      refine x_tswI X (off := 26) 56 dX11_act_30 s8 (by decide) (by decide) (by decide) (by decide) ?_
      refine x_aload X dX11_act_56 0 rfl ?_
      refine x_iload_n X dX11_act_58 4 rfl rfl ?_
      refine x_aload_n X dX11_act_59 1 rfl rfl ?_
      refine x_getsj X (i := 0) 33 fl_X11_54_12 (sdX_0 hω) (ks_0 _) rfl (j := 33) rfl dX11_act_60 ?_
      obtain ⟨b9, hf⟩ := ckS_some hf
      obtain ⟨h10, r11, g12, hf⟩ := bnd_some hf
      refine cd_X11_235 X hω (sd_of hω b9.1) g12 (hR := ⟨Nat.le_of_ble_eq_true rfl, Nat.le_of_ble_eq_true rfl⟩) ⟨Nat.zero_le _, Nat.zero_le _⟩ (Nat.le_of_ble_eq_true rfl) dX11_act_63 ?_
      exact x_retSI X R hf dX11_act_66
    · replace hf := (if_neg s8).symm.trans hf
      by_cases s13 : p1 = (1 : Int32)
      · replace hf := (if_pos s13).symm.trans hf
        refine x_tswI X (off := 37) 67 dX11_act_30 s13 (by decide) (by decide) (by decide) (by decide) ?_
        refine x_aload X dX11_act_67 0 rfl ?_
        refine x_iload_n X dX11_act_69 4 rfl rfl ?_
        refine x_aload_n X dX11_act_70 1 rfl rfl ?_
        refine x_getsj X (i := 0) 33 fl_X11_54_12 (sdX_0 hω) (ks_0 _) rfl (j := 33) rfl dX11_act_71 ?_
        obtain ⟨b14, hf⟩ := ckS_some hf
        obtain ⟨h15, r16, g17, hf⟩ := bnd_some hf
        refine cd_X11_239 X hω (sd_of hω b14.1) g17 (hR := ⟨Nat.le_of_ble_eq_true rfl, Nat.le_of_ble_eq_true rfl⟩) ⟨Nat.zero_le _, Nat.zero_le _⟩ (Nat.le_of_ble_eq_true rfl) dX11_act_74 ?_
        exact x_retSI X R hf dX11_act_77
      · replace hf := (if_neg s13).symm.trans hf
        by_cases s18 : p1 = (2 : Int32)
        · replace hf := (if_pos s18).symm.trans hf
          refine x_tswI X (off := 48) 78 dX11_act_30 s18 (by decide) (by decide) (by decide) (by decide) ?_
          refine x_aload X dX11_act_78 0 rfl ?_
          refine x_iload_n X dX11_act_80 4 rfl rfl ?_
          refine x_aload_n X dX11_act_81 1 rfl rfl ?_
          refine x_getsj X (i := 0) 33 fl_X11_54_12 (sdX_0 hω) (ks_0 _) rfl (j := 33) rfl dX11_act_82 ?_
          obtain ⟨b19, hf⟩ := ckS_some hf
          obtain ⟨h20, r21, g22, hf⟩ := bnd_some hf
          refine cd_X11_242 X hω (sd_of hω b19.1) g22 (hR := ⟨Nat.le_of_ble_eq_true rfl, Nat.le_of_ble_eq_true rfl⟩) ⟨Nat.zero_le _, Nat.zero_le _⟩ (Nat.le_of_ble_eq_true rfl) dX11_act_85 ?_
          exact x_retSI X R hf dX11_act_88
        · replace hf := (if_neg s18).symm.trans hf
          refine x_tswO X 89 dX11_act_30 (by have := lv_neT s8 (a := 0) (by decide); have := lv_neT s13 (a := 1) (by decide); have := lv_neT s18 (a := 2) (by decide); omega) (by decide) ?_
          refine x_iconst X (v := 0) dX11_act_89 (by decide) ?_
          exact x_retSI X R hf dX11_act_90
theorem mt_X11_act : MT yX11_act cX11_act 5 (some .int) "SignalBlind" 3 := ⟨(mT_4 47 rfl rfl), (mT_4 48 rfl rfl), (mT_1 1 rfl rfl), (mT_4 49 rfl rfl), by decide⟩

abbrev rm_J1_canEncode_9a6ad : Room := { frames := 0, cells := 0, slots := 0, locals := 0 }
def f_J1_canEncode_9a6ad_16 (h : hp) (a2 : Int32) : Option Int32 := (ckZ a2
 (some a2))
def f_J1_canEncode_9a6ad_15 (h : hp) : Option Int32 := (f_J1_canEncode_9a6ad_16 h (0 : Int32))
def f_J1_canEncode_9a6ad (h : hp) (p0 : Int32) : Option Int32 := (if p0 < 0 then
 (f_J1_canEncode_9a6ad_15 h)
 else
 (if (255 : Int32) < p0 then
 (f_J1_canEncode_9a6ad_15 h)
 else
 (f_J1_canEncode_9a6ad_16 h (1 : Int32))))
set_option maxRecDepth 100000 in
set_option maxHeartbeats 4000000 in
theorem k_J1_canEncode_9a6ad_16 {ω : XO} (hω : ω.2.2.2.1 = 1) {κ : XK} (X : XC ω rm_J1_canEncode_9a6ad 1 κ cJ1_canEncode_9a6ad "java/lang/StringLatin1") {L : List Nat} {q : Nat → Nat} {h : hp} {r : Int32} (R : XRet ω rm_J1_canEncode_9a6ad κ (some .boolean) L q h (some (.int r))) : ∀ (a2 : Int32), f_J1_canEncode_9a6ad_16 h a2 = some r → XG ω rm_J1_canEncode_9a6ad 1 κ L q h 0 0 16 [] [.int a2] := by
  intro a2 hf
  unfold f_J1_canEncode_9a6ad_16 at hf
  obtain ⟨z3, hf⟩ := ckZ_some hf
  exact x_retRZ X R z3 hf dJ1_canEncode_9a6ad_16
set_option maxRecDepth 100000 in
set_option maxHeartbeats 4000000 in
theorem k_J1_canEncode_9a6ad_15 {ω : XO} (hω : ω.2.2.2.1 = 1) {κ : XK} (X : XC ω rm_J1_canEncode_9a6ad 1 κ cJ1_canEncode_9a6ad "java/lang/StringLatin1") {L : List Nat} {q : Nat → Nat} {h : hp} {r : Int32} (R : XRet ω rm_J1_canEncode_9a6ad κ (some .boolean) L q h (some (.int r))) : f_J1_canEncode_9a6ad_15 h = some r → XG ω rm_J1_canEncode_9a6ad 1 κ L q h 0 0 15 [] [] := by
  intro  hf
  unfold f_J1_canEncode_9a6ad_15 at hf
  refine x_iconst X (v := 0) dJ1_canEncode_9a6ad_15 (by decide) ?_
  refine x_lv [] rfl ?_
  exact k_J1_canEncode_9a6ad_16 hω X R _ hf
set_option maxRecDepth 100000 in
set_option maxHeartbeats 4000000 in
theorem k_J1_canEncode_9a6ad {ω : XO} (hω : ω.2.2.2.1 = 1) {L : List Nat} {q : Nat → Nat} {h : hp} {p0 : Int32} {r : Int32} (hf : f_J1_canEncode_9a6ad h p0 = some r) : XM ω yJ1_canEncode_9a6ad cJ1_canEncode_9a6ad 1 (some .boolean) rm_J1_canEncode_9a6ad L q h [.int p0] (some (.int r)) h := by
  refine XM_intro [(0, .int p0)] "java/lang/StringLatin1" (by decide) rfl rfl (Nat.le_of_ble_eq_true rfl) (fun κ X R => ?_)
  unfold f_J1_canEncode_9a6ad at hf
  refine x_iload_n X dJ1_canEncode_9a6ad_0 0 rfl rfl ?_
  refine x_if_lt X 15 dJ1_canEncode_9a6ad_1 (by decide) (fun c1 => ?_) (fun c1 => ?_)
  · replace hf := (if_pos c1).symm.trans hf
    refine x_lv [] rfl ?_
    exact k_J1_canEncode_9a6ad_15 hω X R  hf
  · replace hf := (if_neg c1).symm.trans hf
    refine x_iload_n X dJ1_canEncode_9a6ad_4 0 rfl rfl ?_
    refine x_sipush X (v := 255) dJ1_canEncode_9a6ad_5 (by decide) ?_
    refine x_icmp_gt X 15 dJ1_canEncode_9a6ad_8 (by decide) (fun c4 => ?_) (fun c4 => ?_)
    · replace hf := (if_pos c4).symm.trans hf
      refine x_lv [] rfl ?_
      exact k_J1_canEncode_9a6ad_15 hω X R  hf
    · replace hf := (if_neg c4).symm.trans hf
      refine x_iconst X (v := 1) dJ1_canEncode_9a6ad_11 (by decide) ?_
      refine x_goto X 16 dJ1_canEncode_9a6ad_12 (by decide) ?_
      refine x_lv [] rfl ?_
      exact k_J1_canEncode_9a6ad_16 hω X R _ hf
theorem mt_J1_canEncode_9a6ad : MS yJ1_canEncode_9a6ad cJ1_canEncode_9a6ad 1 (some .boolean) 1 := ⟨(mT_3 34 rfl rfl), (mT_1 20 rfl rfl), (mT_3 35 rfl rfl), by decide⟩
theorem c_J1_88 {ω : XO} {rm : Room} {nL : Nat} {κ : XK} {cc : ByteArray} (X : XC ω rm nL κ cc "java/lang/StringLatin1") (hω : ω.2.2.2.1 = 1) {L : List Nat} {q : Nat → Nat} {h : hp} {cells slots pc : Nat} {lv : List (Nat × Value)} {rest : List Value} {p0 : Int32} {r : Int32} (hf : f_J1_canEncode_9a6ad h p0 = some r) (hR : rm_J1_canEncode_9a6ad.frames + 1 ≤ rm.frames ∧ 8 + (1 + 11) + rm_J1_canEncode_9a6ad.locals ≤ rm.locals) (hcs : cells ≤ rm.cells ∧ slots ≤ rm.slots) (hroom : (rest.map fun v => v.category).sum ≤ 8) (hd : decode cc pc = .ok (.invokestatic 88, 3)) (kk : XG ω rm nL κ L q h cells slots (pc + 3) lv (.int r :: rest)) : XG ω rm nL κ L q h cells slots pc lv (.int p0 :: rest) := x_callS X [.int p0] rest (k_J1_canEncode_9a6ad hω hf) mt_J1_canEncode_9a6ad (mT_3 33 rfl rfl) hR ⟨rfl, rfl⟩ hcs rfl hroom hd kk

abbrev rm_J1_indexOfChar_4cfef : Room := { frames := 0, cells := 0, slots := 0, locals := 0 }
def f_J1_indexOfChar_4cfef_7 (h : hp) : Nat → Nat → Int32 → Int32 → Int32 → Option Int32
  | 0, _, _, _, _ => none
  | n + 1, a2, a3, a4, a5 => (if a5 < a3 then
 (ckT a2
 (chk a5 (svlen a2)
 (if (svb a2 (a5).toNatClampNeg) = a4 then
 (some a5)
 else
 (nm (a5 + (1 : Int32)) fun v10 =>
 ((f_J1_indexOfChar_4cfef_7 h n) a2 a3 a4 v10)))))
 else
 (some (-1 : Int32)))
def f_J1_indexOfChar_4cfef (h : hp) (p0 : Nat) (p1 : Int32) (p2 : Int32) (p3 : Int32) : Option Int32 := (nm ((p1).toInt8.toInt32) fun v1 =>
 (f_J1_indexOfChar_4cfef_7 h 2000 p0 p3 v1 p2))
set_option maxRecDepth 100000 in
set_option maxHeartbeats 4000000 in
theorem k_J1_indexOfChar_4cfef_7 {ω : XO} (hω : ω.2.2.2.1 = 1) {κ : XK} (X : XC ω rm_J1_indexOfChar_4cfef 6 κ cJ1_indexOfChar_4cfef "java/lang/StringLatin1") {L : List Nat} {q : Nat → Nat} {h : hp} {r : Int32} (R : XRet ω rm_J1_indexOfChar_4cfef κ (some .int) L q h (some (.int r))) : ∀ (n : Nat) (a2 : Nat) (a3 : Int32) (a4 : Int32) (a5 : Int32), f_J1_indexOfChar_4cfef_7 h n a2 a3 a4 a5 = some r → XG ω rm_J1_indexOfChar_4cfef 6 κ L q h 0 0 7 [(0, .ref (ω.2.2.2.2.2 a2)), (3, .int a3), (4, .int a4), (5, .int a5)] [] := by
  intro n
  induction n with
  | zero =>
    intro a2 a3 a4 a5 hf
    have hf : (none : Option Int32) = some r := hf
    cases hf
  | succ n ih =>
    intro a2 a3 a4 a5 hf
    rw [f_J1_indexOfChar_4cfef_7] at hf
    refine x_iload X dJ1_indexOfChar_4cfef_7 3 rfl ?_
    refine x_iload_n X dJ1_indexOfChar_4cfef_9 1 rfl rfl ?_
    refine x_icmp_ge X 31 dJ1_indexOfChar_4cfef_10 (by decide) (fun c6 => ?_) (fun c6 => ?_)
    · replace hf := (if_pos c6).symm.trans hf
      refine x_aload_n X dJ1_indexOfChar_4cfef_13 0 rfl rfl ?_
      refine x_iload X dJ1_indexOfChar_4cfef_14 3 rfl ?_
      obtain ⟨b7, hf⟩ := ckT_some hf
      obtain ⟨z8, hf⟩ := chk_some hf
      refine x_svld X b7 z8 dJ1_indexOfChar_4cfef_16 ?_
      refine x_iload X dJ1_indexOfChar_4cfef_17 2 rfl ?_
      refine x_icmp_ne X 25 dJ1_indexOfChar_4cfef_19 (by decide) (fun c9 => ?_) (fun c9 => ?_)
      · replace hf := (if_pos c9).symm.trans hf
        refine x_iload X dJ1_indexOfChar_4cfef_22 3 rfl ?_
        exact x_retRI X R hf dJ1_indexOfChar_4cfef_24
      · replace hf := (if_neg c9).symm.trans hf
        obtain ⟨v10, ev10, hf⟩ := nm_some hf
        refine x_iincN X (v := 1) ev10 [(5, .int v10), (0, .ref (ω.2.2.2.2.2 a2)), (3, .int a3), (4, .int a4)] dJ1_indexOfChar_4cfef_25 3 rfl (by decide) (Nat.le_of_ble_eq_true rfl) rfl ?_
        refine x_goto X 7 dJ1_indexOfChar_4cfef_28 (by decide) ?_
        refine x_lv [1, 2, 3, 0] rfl ?_
        exact ih _ _ _ _ hf
    · replace hf := (if_neg c6).symm.trans hf
      refine x_iconst X (v := -1) dJ1_indexOfChar_4cfef_31 (by decide) ?_
      exact x_retRI X R hf dJ1_indexOfChar_4cfef_32
set_option maxRecDepth 100000 in
set_option maxHeartbeats 4000000 in
theorem k_J1_indexOfChar_4cfef {ω : XO} (hω : ω.2.2.2.1 = 1) {L : List Nat} {q : Nat → Nat} {h : hp} {p0 : Nat} {p1 : Int32} {p2 : Int32} {p3 : Int32} {r : Int32} (hf : f_J1_indexOfChar_4cfef h p0 p1 p2 p3 = some r) : XM ω yJ1_indexOfChar_4cfef cJ1_indexOfChar_4cfef 6 (some .int) rm_J1_indexOfChar_4cfef L q h [.ref (ω.2.2.2.2.2 p0), .int p1, .int p2, .int p3] (some (.int r)) h := by
  refine XM_intro [(0, .ref (ω.2.2.2.2.2 p0)), (1, .int p1), (2, .int p2), (3, .int p3)] "java/lang/StringLatin1" (by decide) rfl rfl (Nat.le_of_ble_eq_true rfl) (fun κ X R => ?_)
  unfold f_J1_indexOfChar_4cfef at hf
  refine x_iload_n X dJ1_indexOfChar_4cfef_0 1 rfl rfl ?_
  refine x_i2b X dJ1_indexOfChar_4cfef_1 ?_
  obtain ⟨v1, ev1, hf⟩ := nm_some hf
  refine x_nmI ev1 ?_
  refine x_istore X [(4, .int v1), (0, .ref (ω.2.2.2.2.2 p0)), (1, .int p1), (2, .int p2), (3, .int p3)] dJ1_indexOfChar_4cfef_2 (Nat.le_of_ble_eq_true rfl) rfl ?_
  refine x_iload_n X dJ1_indexOfChar_4cfef_4 3 rfl rfl ?_
  refine x_istore X [(5, .int p2), (4, .int v1), (0, .ref (ω.2.2.2.2.2 p0)), (1, .int p1), (2, .int p2), (3, .int p3)] dJ1_indexOfChar_4cfef_5 (Nat.le_of_ble_eq_true rfl) rfl ?_
  refine x_lv [2, 5, 1, 0] rfl ?_
  exact k_J1_indexOfChar_4cfef_7 hω X R _ _ _ _ _ hf
theorem mt_J1_indexOfChar_4cfef : MS yJ1_indexOfChar_4cfef cJ1_indexOfChar_4cfef 6 (some .int) 4 := ⟨(mT_3 43 rfl rfl), (mT_1 20 rfl rfl), (mT_3 44 rfl rfl), by decide⟩
theorem c_J1_95 {ω : XO} {rm : Room} {nL : Nat} {κ : XK} {cc : ByteArray} (X : XC ω rm nL κ cc "java/lang/StringLatin1") (hω : ω.2.2.2.1 = 1) {L : List Nat} {q : Nat → Nat} {h : hp} {cells slots pc : Nat} {lv : List (Nat × Value)} {rest : List Value} {p0 : Nat} {p1 : Int32} {p2 : Int32} {p3 : Int32} {r : Int32} (hf : f_J1_indexOfChar_4cfef h p0 p1 p2 p3 = some r) (hR : rm_J1_indexOfChar_4cfef.frames + 1 ≤ rm.frames ∧ 8 + (6 + 11) + rm_J1_indexOfChar_4cfef.locals ≤ rm.locals) (hcs : cells ≤ rm.cells ∧ slots ≤ rm.slots) (hroom : (rest.map fun v => v.category).sum ≤ 8) (hd : decode cc pc = .ok (.invokestatic 95, 3)) (kk : XG ω rm nL κ L q h cells slots (pc + 3) lv (.int r :: rest)) : XG ω rm nL κ L q h cells slots pc lv (.int p3 :: .int p2 :: .int p1 :: .ref (ω.2.2.2.2.2 p0) :: rest) := x_callS X [.ref (ω.2.2.2.2.2 p0), .int p1, .int p2, .int p3] rest (k_J1_indexOfChar_4cfef hω hf) mt_J1_indexOfChar_4cfef (mT_3 42 rfl rfl) hR ⟨rfl, rfl⟩ hcs rfl hroom hd kk

abbrev rm_J1_indexOf_4cfef : Room := { frames := 1, cells := 0, slots := 0, locals := 31 }
def f_J1_indexOf_4cfef (h : hp) (p0 : Nat) (p1 : Int32) (p2 : Int32) (p3 : Int32) : Option Int32 := (bnr (f_J1_canEncode_9a6ad h p1) fun r1 =>
 (if r1 = 0 then
 (some (-1 : Int32))
 else
 (nm (mxI p2 (0 : Int32)) fun v4 =>
 (ckT p0
 (nm (mnI p3 (Int32.ofNat (svlen p0))) fun v6 =>
 (if v4 < v6 then
 (bnr (f_J1_indexOfChar_4cfef h p0 p1 v4 v6) fun r8 =>
 (some r8))
 else
 (some (-1 : Int32))))))))
set_option maxRecDepth 100000 in
set_option maxHeartbeats 4000000 in
theorem k_J1_indexOf_4cfef {ω : XO} (hω : ω.2.2.2.1 = 1) {L : List Nat} {q : Nat → Nat} {h : hp} {p0 : Nat} {p1 : Int32} {p2 : Int32} {p3 : Int32} {r : Int32} (hf : f_J1_indexOf_4cfef h p0 p1 p2 p3 = some r) : XM ω yJ1_indexOf_4cfef cJ1_indexOf_4cfef 4 (some .int) rm_J1_indexOf_4cfef L q h [.ref (ω.2.2.2.2.2 p0), .int p1, .int p2, .int p3] (some (.int r)) h := by
  refine XM_intro [(0, .ref (ω.2.2.2.2.2 p0)), (1, .int p1), (2, .int p2), (3, .int p3)] "java/lang/StringLatin1" (by decide) rfl rfl (Nat.le_of_ble_eq_true rfl) (fun κ X R => ?_)
  unfold f_J1_indexOf_4cfef at hf
  refine x_iload_n X dJ1_indexOf_4cfef_0 1 rfl rfl ?_
  obtain ⟨r1, g2, hf⟩ := bnr_some hf
  refine c_J1_88 X hω g2 (hR := ⟨Nat.le_of_ble_eq_true rfl, Nat.le_of_ble_eq_true rfl⟩) ⟨Nat.zero_le _, Nat.zero_le _⟩ (Nat.le_of_ble_eq_true rfl) dJ1_indexOf_4cfef_1 ?_
  refine x_if_ne X 9 dJ1_indexOf_4cfef_4 (by decide) (fun c3 => ?_) (fun c3 => ?_)
  · replace hf := (if_pos c3).symm.trans hf
    refine x_iconst X (v := -1) dJ1_indexOf_4cfef_7 (by decide) ?_
    exact x_retRI X R hf dJ1_indexOf_4cfef_8
  · replace hf := (if_neg c3).symm.trans hf
    refine x_iload_n X dJ1_indexOf_4cfef_9 2 rfl rfl ?_
    refine x_iconst X (v := 0) dJ1_indexOf_4cfef_10 (by decide) ?_
    refine x_mmax_J1_92 X (Nat.le_of_ble_eq_true rfl) ⟨Nat.le_of_ble_eq_true rfl, Nat.le_of_ble_eq_true rfl⟩ ⟨Nat.zero_le _, Nat.zero_le _⟩ dJ1_indexOf_4cfef_11 ?_
    obtain ⟨v4, ev4, hf⟩ := nm_some hf
    refine x_nmI ev4 ?_
    refine x_istore_n X [(2, .int v4), (0, .ref (ω.2.2.2.2.2 p0)), (1, .int p1), (3, .int p3)] dJ1_indexOf_4cfef_14 rfl (Nat.le_of_ble_eq_true rfl) rfl ?_
    refine x_iload_n X dJ1_indexOf_4cfef_15 3 rfl rfl ?_
    refine x_aload_n X dJ1_indexOf_4cfef_16 1 rfl rfl ?_
    obtain ⟨b5, hf⟩ := ckT_some hf
    refine x_svlen X b5 dJ1_indexOf_4cfef_17 ?_
    refine x_mmin_J1_38 X (Nat.le_of_ble_eq_true rfl) ⟨Nat.le_of_ble_eq_true rfl, Nat.le_of_ble_eq_true rfl⟩ ⟨Nat.zero_le _, Nat.zero_le _⟩ dJ1_indexOf_4cfef_18 ?_
    obtain ⟨v6, ev6, hf⟩ := nm_some hf
    refine x_nmI ev6 ?_
    refine x_istore_n X [(3, .int v6), (2, .int v4), (0, .ref (ω.2.2.2.2.2 p0)), (1, .int p1)] dJ1_indexOf_4cfef_21 rfl (Nat.le_of_ble_eq_true rfl) rfl ?_
    refine x_iload_n X dJ1_indexOf_4cfef_22 1 rfl rfl ?_
    refine x_iload_n X dJ1_indexOf_4cfef_23 0 rfl rfl ?_
    refine x_icmp_lt X 29 dJ1_indexOf_4cfef_24 (by decide) (fun c7 => ?_) (fun c7 => ?_)
    · replace hf := (if_pos c7).symm.trans hf
      refine x_aload_n X dJ1_indexOf_4cfef_29 2 rfl rfl ?_
      refine x_iload_n X dJ1_indexOf_4cfef_30 3 rfl rfl ?_
      refine x_iload_n X dJ1_indexOf_4cfef_31 1 rfl rfl ?_
      refine x_iload_n X dJ1_indexOf_4cfef_32 0 rfl rfl ?_
      obtain ⟨r8, g9, hf⟩ := bnr_some hf
      refine c_J1_95 X hω g9 (hR := ⟨Nat.le_of_ble_eq_true rfl, Nat.le_of_ble_eq_true rfl⟩) ⟨Nat.zero_le _, Nat.zero_le _⟩ (Nat.le_of_ble_eq_true rfl) dJ1_indexOf_4cfef_33 ?_
      exact x_retRI X R hf dJ1_indexOf_4cfef_36
    · replace hf := (if_neg c7).symm.trans hf
      refine x_iconst X (v := -1) dJ1_indexOf_4cfef_27 (by decide) ?_
      exact x_retRI X R hf dJ1_indexOf_4cfef_28
theorem mt_J1_indexOf_4cfef : MS yJ1_indexOf_4cfef cJ1_indexOf_4cfef 4 (some .int) 4 := ⟨(mT_3 31 rfl rfl), (mT_1 20 rfl rfl), (mT_3 32 rfl rfl), by decide⟩
theorem c_J0_637 {ω : XO} {rm : Room} {nL : Nat} {κ : XK} {cc : ByteArray} (X : XC ω rm nL κ cc "java/lang/String") (hω : ω.2.2.2.1 = 1) {L : List Nat} {q : Nat → Nat} {h : hp} {cells slots pc : Nat} {lv : List (Nat × Value)} {rest : List Value} {p0 : Nat} {p1 : Int32} {p2 : Int32} {p3 : Int32} {r : Int32} (hf : f_J1_indexOf_4cfef h p0 p1 p2 p3 = some r) (hR : rm_J1_indexOf_4cfef.frames + 1 ≤ rm.frames ∧ 8 + (4 + 11) + rm_J1_indexOf_4cfef.locals ≤ rm.locals) (hcs : cells ≤ rm.cells ∧ slots ≤ rm.slots) (hroom : (rest.map fun v => v.category).sum ≤ 8) (hd : decode cc pc = .ok (.invokestatic 637, 3)) (kk : XG ω rm nL κ L q h cells slots (pc + 3) lv (.int r :: rest)) : XG ω rm nL κ L q h cells slots pc lv (.int p3 :: .int p2 :: .int p1 :: .ref (ω.2.2.2.2.2 p0) :: rest) := x_callS X [.ref (ω.2.2.2.2.2 p0), .int p1, .int p2, .int p3] rest (k_J1_indexOf_4cfef hω hf) mt_J1_indexOf_4cfef (mT_3 30 rfl rfl) hR ⟨rfl, rfl⟩ hcs rfl hroom hd kk

abbrev rm_J0_isLatin1_aae02 : Room := { frames := 0, cells := 0, slots := 0, locals := 0 }
def f_J0_isLatin1_aae02_18 (h : hp) (a2 : Int32) : Option Int32 := (ckZ a2
 (some a2))
def f_J0_isLatin1_aae02_17 (h : hp) : Option Int32 := (f_J0_isLatin1_aae02_18 h (0 : Int32))
def f_J0_isLatin1_aae02 (h : hp) (o : Nat) : Option Int32 := (if (1 : Int32) = 0 then
 (f_J0_isLatin1_aae02_17 h)
 else
 (ckT o
 (if (0 : Int32) = 0 then
 (f_J0_isLatin1_aae02_18 h (1 : Int32))
 else
 (f_J0_isLatin1_aae02_17 h))))
set_option maxRecDepth 100000 in
set_option maxHeartbeats 4000000 in
theorem k_J0_isLatin1_aae02_18 {ω : XO} (hω : ω.2.2.2.1 = 1) {κ : XK} (X : XC ω rm_J0_isLatin1_aae02 1 κ cJ0_isLatin1_aae02 "java/lang/String") {L : List Nat} {q : Nat → Nat} {h : hp} {r : Int32} (R : XRet ω rm_J0_isLatin1_aae02 κ (some .boolean) L q h (some (.int r))) : ∀ (a2 : Int32), f_J0_isLatin1_aae02_18 h a2 = some r → XG ω rm_J0_isLatin1_aae02 1 κ L q h 0 0 18 [] [.int a2] := by
  intro a2 hf
  unfold f_J0_isLatin1_aae02_18 at hf
  obtain ⟨z3, hf⟩ := ckZ_some hf
  exact x_retRZ X R z3 hf dJ0_isLatin1_aae02_18
set_option maxRecDepth 100000 in
set_option maxHeartbeats 4000000 in
theorem k_J0_isLatin1_aae02_17 {ω : XO} (hω : ω.2.2.2.1 = 1) {κ : XK} (X : XC ω rm_J0_isLatin1_aae02 1 κ cJ0_isLatin1_aae02 "java/lang/String") {L : List Nat} {q : Nat → Nat} {h : hp} {r : Int32} (R : XRet ω rm_J0_isLatin1_aae02 κ (some .boolean) L q h (some (.int r))) : f_J0_isLatin1_aae02_17 h = some r → XG ω rm_J0_isLatin1_aae02 1 κ L q h 0 0 17 [] [] := by
  intro  hf
  unfold f_J0_isLatin1_aae02_17 at hf
  refine x_iconst X (v := 0) dJ0_isLatin1_aae02_17 (by decide) ?_
  refine x_lv [] rfl ?_
  exact k_J0_isLatin1_aae02_18 hω X R _ hf
set_option maxRecDepth 100000 in
set_option maxHeartbeats 4000000 in
theorem k_J0_isLatin1_aae02 {ω : XO} (hω : ω.2.2.2.1 = 1) {L : List Nat} {q : Nat → Nat} {h : hp} {o : Nat} {r : Int32} (hf : f_J0_isLatin1_aae02 h o = some r) : XM ω yJ0_isLatin1_aae02 cJ0_isLatin1_aae02 1 (some .boolean) rm_J0_isLatin1_aae02 L q h [.ref (ω.2.2.2.2.1 o)] (some (.int r)) h := by
  refine XM_intro [(0, .ref (ω.2.2.2.2.1 o))] "java/lang/String" (by decide) rfl rfl (Nat.le_of_ble_eq_true rfl) (fun κ X R => ?_)
  unfold f_J0_isLatin1_aae02 at hf
  refine x_stat_J0_38 X dJ0_isLatin1_aae02_0 ?_
  refine x_if_eq X 17 dJ0_isLatin1_aae02_3 (by decide) (fun c1 => ?_) (fun c1 => ?_)
  · replace hf := (if_pos c1).symm.trans hf
    refine x_lv [] rfl ?_
    exact k_J0_isLatin1_aae02_17 hω X R  hf
  · replace hf := (if_neg c1).symm.trans hf
    refine x_aload_n X dJ0_isLatin1_aae02_6 0 rfl rfl ?_
    obtain ⟨b4, hf⟩ := ckT_some hf
    refine x_strC X b4 (mT_7 114 rfl rfl) dJ0_isLatin1_aae02_7 ?_
    refine x_if_ne X 17 dJ0_isLatin1_aae02_10 (by decide) (fun c5 => ?_) (fun c5 => ?_)
    · replace hf := (if_pos c5).symm.trans hf
      refine x_iconst X (v := 1) dJ0_isLatin1_aae02_13 (by decide) ?_
      refine x_goto X 18 dJ0_isLatin1_aae02_14 (by decide) ?_
      refine x_lv [] rfl ?_
      exact k_J0_isLatin1_aae02_18 hω X R _ hf
    · replace hf := (if_neg c5).symm.trans hf
      refine x_lv [] rfl ?_
      exact k_J0_isLatin1_aae02_17 hω X R  hf
theorem mt_J0_isLatin1_aae02 : MT yJ0_isLatin1_aae02 cJ0_isLatin1_aae02 1 (some .boolean) "java/lang/String" 0 := ⟨(mT_3 18 rfl rfl), (mT_3 19 rfl rfl), (mT_1 7 rfl rfl), (mT_3 20 rfl rfl), by decide⟩
theorem c_J0_492 {ω : XO} {rm : Room} {nL : Nat} {κ : XK} {cc : ByteArray} (X : XC ω rm nL κ cc "java/lang/String") (hω : ω.2.2.2.1 = 1) {L : List Nat} {q : Nat → Nat} {h : hp} {cells slots pc : Nat} {lv : List (Nat × Value)} {rest : List Value} {o : Nat} {r : Int32} (hf : f_J0_isLatin1_aae02 h o = some r) (hk : o < 5) (hR : rm_J0_isLatin1_aae02.frames + 1 ≤ rm.frames ∧ 8 + (1 + 11) + rm_J0_isLatin1_aae02.locals ≤ rm.locals) (hcs : cells ≤ rm.cells ∧ slots ≤ rm.slots) (hroom : (rest.map fun v => v.category).sum ≤ 8) (hd : decode cc pc = .ok (.invokevirtual 492, 3)) (kk : XG ω rm nL κ L q h cells slots (pc + 3) lv (.int r :: rest)) : XG ω rm nL κ L q h cells slots pc lv (.ref (ω.2.2.2.2.1 o) :: rest) := x_callVS X [] rest (k_J0_isLatin1_aae02 hω hf) mt_J0_isLatin1_aae02 (mT_3 17 rfl rfl) hR ⟨rfl, rfl⟩ hcs hk rfl hroom hd kk

abbrev rm_J0_coder_7d493 : Room := { frames := 0, cells := 0, slots := 0, locals := 0 }
def f_J0_coder_7d493_14 (h : hp) (a2 : Int32) : Option Int32 := (ckB a2
 (some a2))
def f_J0_coder_7d493 (h : hp) (o : Nat) : Option Int32 := (if (1 : Int32) = 0 then
 (f_J0_coder_7d493_14 h (1 : Int32))
 else
 (ckT o
 (f_J0_coder_7d493_14 h (0 : Int32))))
set_option maxRecDepth 100000 in
set_option maxHeartbeats 4000000 in
theorem k_J0_coder_7d493_14 {ω : XO} (hω : ω.2.2.2.1 = 1) {κ : XK} (X : XC ω rm_J0_coder_7d493 1 κ cJ0_coder_7d493 "java/lang/String") {L : List Nat} {q : Nat → Nat} {h : hp} {r : Int32} (R : XRet ω rm_J0_coder_7d493 κ (some .byte) L q h (some (.int r))) : ∀ (a2 : Int32), f_J0_coder_7d493_14 h a2 = some r → XG ω rm_J0_coder_7d493 1 κ L q h 0 0 14 [] [.int a2] := by
  intro a2 hf
  unfold f_J0_coder_7d493_14 at hf
  obtain ⟨z3, hf⟩ := ckB_some hf
  exact x_retRB X R z3 hf dJ0_coder_7d493_14
set_option maxRecDepth 100000 in
set_option maxHeartbeats 4000000 in
theorem k_J0_coder_7d493 {ω : XO} (hω : ω.2.2.2.1 = 1) {L : List Nat} {q : Nat → Nat} {h : hp} {o : Nat} {r : Int32} (hf : f_J0_coder_7d493 h o = some r) : XM ω yJ0_coder_7d493 cJ0_coder_7d493 1 (some .byte) rm_J0_coder_7d493 L q h [.ref (ω.2.2.2.2.1 o)] (some (.int r)) h := by
  refine XM_intro [(0, .ref (ω.2.2.2.2.1 o))] "java/lang/String" (by decide) rfl rfl (Nat.le_of_ble_eq_true rfl) (fun κ X R => ?_)
  unfold f_J0_coder_7d493 at hf
  refine x_stat_J0_38 X dJ0_coder_7d493_0 ?_
  refine x_if_eq X 13 dJ0_coder_7d493_3 (by decide) (fun c1 => ?_) (fun c1 => ?_)
  · replace hf := (if_pos c1).symm.trans hf
    refine x_iconst X (v := 1) dJ0_coder_7d493_13 (by decide) ?_
    refine x_lv [] rfl ?_
    exact k_J0_coder_7d493_14 hω X R _ hf
  · replace hf := (if_neg c1).symm.trans hf
    refine x_aload_n X dJ0_coder_7d493_6 0 rfl rfl ?_
    obtain ⟨b4, hf⟩ := ckT_some hf
    refine x_strC X b4 (mT_7 114 rfl rfl) dJ0_coder_7d493_7 ?_
    refine x_goto X 14 dJ0_coder_7d493_10 (by decide) ?_
    refine x_lv [] rfl ?_
    exact k_J0_coder_7d493_14 hω X R _ hf
theorem mt_J0_coder_7d493 : MT yJ0_coder_7d493 cJ0_coder_7d493 1 (some .byte) "java/lang/String" 0 := ⟨(mT_3 27 rfl rfl), (mT_3 28 rfl rfl), (mT_1 7 rfl rfl), (mT_3 29 rfl rfl), by decide⟩
theorem c_J0_335 {ω : XO} {rm : Room} {nL : Nat} {κ : XK} {cc : ByteArray} (X : XC ω rm nL κ cc "java/lang/String") (hω : ω.2.2.2.1 = 1) {L : List Nat} {q : Nat → Nat} {h : hp} {cells slots pc : Nat} {lv : List (Nat × Value)} {rest : List Value} {o : Nat} {r : Int32} (hf : f_J0_coder_7d493 h o = some r) (hk : o < 5) (hR : rm_J0_coder_7d493.frames + 1 ≤ rm.frames ∧ 8 + (1 + 11) + rm_J0_coder_7d493.locals ≤ rm.locals) (hcs : cells ≤ rm.cells ∧ slots ≤ rm.slots) (hroom : (rest.map fun v => v.category).sum ≤ 8) (hd : decode cc pc = .ok (.invokevirtual 335, 3)) (kk : XG ω rm nL κ L q h cells slots (pc + 3) lv (.int r :: rest)) : XG ω rm nL κ L q h cells slots pc lv (.ref (ω.2.2.2.2.1 o) :: rest) := x_callVS X [] rest (k_J0_coder_7d493 hω hf) mt_J0_coder_7d493 (mT_3 26 rfl rfl) hR ⟨rfl, rfl⟩ hcs hk rfl hroom hd kk

abbrev rm_J0_length_8abf5 : Room := { frames := 1, cells := 0, slots := 0, locals := 20 }
def f_J0_length_8abf5 (h : hp) (o : Nat) : Option Int32 := (ckT o
 (ckT o
 (ckT o
 (bnr (f_J0_coder_7d493 h o) fun r4 =>
 (some ((Int32.ofNat (svlen o)) >>> (r4 &&& 31)))))))
set_option maxRecDepth 100000 in
set_option maxHeartbeats 4000000 in
theorem k_J0_length_8abf5 {ω : XO} (hω : ω.2.2.2.1 = 1) {L : List Nat} {q : Nat → Nat} {h : hp} {o : Nat} {r : Int32} (hf : f_J0_length_8abf5 h o = some r) : XM ω yJ0_length_8abf5 cJ0_length_8abf5 1 (some .int) rm_J0_length_8abf5 L q h [.ref (ω.2.2.2.2.1 o)] (some (.int r)) h := by
  refine XM_intro [(0, .ref (ω.2.2.2.2.1 o))] "java/lang/String" (by decide) rfl rfl (Nat.le_of_ble_eq_true rfl) (fun κ X R => ?_)
  unfold f_J0_length_8abf5 at hf
  refine x_aload_n X dJ0_length_8abf5_0 0 rfl rfl ?_
  obtain ⟨b1, hf⟩ := ckT_some hf
  refine x_strV X b1 (mT_7 115 rfl rfl) dJ0_length_8abf5_1 ?_
  obtain ⟨b2, hf⟩ := ckT_some hf
  refine x_svlen X b2 dJ0_length_8abf5_4 ?_
  refine x_aload_n X dJ0_length_8abf5_5 0 rfl rfl ?_
  obtain ⟨b3, hf⟩ := ckT_some hf
  obtain ⟨r4, g5, hf⟩ := bnr_some hf
  refine c_J0_335 X hω g5 b3 (hR := ⟨Nat.le_of_ble_eq_true rfl, Nat.le_of_ble_eq_true rfl⟩) ⟨Nat.zero_le _, Nat.zero_le _⟩ (Nat.le_of_ble_eq_true rfl) dJ0_length_8abf5_6 ?_
  refine x_ishr X dJ0_length_8abf5_9 ?_
  exact x_retRI X R hf dJ0_length_8abf5_10
theorem mt_J0_length_8abf5 : MT yJ0_length_8abf5 cJ0_length_8abf5 1 (some .int) "java/lang/String" 0 := ⟨(mT_3 23 rfl rfl), (mT_3 24 rfl rfl), (mT_1 7 rfl rfl), (mT_3 25 rfl rfl), by decide⟩
theorem c_J0_505 {ω : XO} {rm : Room} {nL : Nat} {κ : XK} {cc : ByteArray} (X : XC ω rm nL κ cc "java/lang/String") (hω : ω.2.2.2.1 = 1) {L : List Nat} {q : Nat → Nat} {h : hp} {cells slots pc : Nat} {lv : List (Nat × Value)} {rest : List Value} {o : Nat} {r : Int32} (hf : f_J0_length_8abf5 h o = some r) (hk : o < 5) (hR : rm_J0_length_8abf5.frames + 1 ≤ rm.frames ∧ 8 + (1 + 11) + rm_J0_length_8abf5.locals ≤ rm.locals) (hcs : cells ≤ rm.cells ∧ slots ≤ rm.slots) (hroom : (rest.map fun v => v.category).sum ≤ 8) (hd : decode cc pc = .ok (.invokevirtual 505, 3)) (kk : XG ω rm nL κ L q h cells slots (pc + 3) lv (.int r :: rest)) : XG ω rm nL κ L q h cells slots pc lv (.ref (ω.2.2.2.2.1 o) :: rest) := x_callVS X [] rest (k_J0_length_8abf5 hω hf) mt_J0_length_8abf5 (mT_3 22 rfl rfl) hR ⟨rfl, rfl⟩ hcs hk rfl hroom hd kk

abbrev rm_J0_indexOf_7cf53 : Room := { frames := 2, cells := 0, slots := 0, locals := 54 }
def f_J0_indexOf_7cf53_36 (h : hp) (a15 : Int32) : Option (hp × Int32) := (some (h, a15))
def f_J0_indexOf_7cf53 (h : hp) (o : Nat) (p0 : Int32) (p1 : Int32) : Option (hp × Int32) := (ckT o
 (bnr (f_J0_isLatin1_aae02 h o) fun r2 =>
 (if r2 = 0 then
 (ckT o
 (ckT o
 (bnr (f_J0_length_8abf5 h o) fun r7 =>
 none)))
 else
 (ckT o
 (ckT o
 (bnr (f_J0_length_8abf5 h o) fun r11 =>
 (bnr (f_J1_indexOf_4cfef h o p0 p1 r11) fun r13 =>
 (f_J0_indexOf_7cf53_36 h r13))))))))
set_option maxRecDepth 100000 in
set_option maxHeartbeats 4000000 in
theorem k_J0_indexOf_7cf53_36 {ω : XO} (hω : ω.2.2.2.1 = 1) {κ : XK} (X : XC ω rm_J0_indexOf_7cf53 3 κ cJ0_indexOf_7cf53 "java/lang/String") {L : List Nat} {q : Nat → Nat} {h' : hp} {r : Int32} (R : XRet ω rm_J0_indexOf_7cf53 κ (some .int) L q h' (some (.int r))) : ∀ (h : hp) (a15 : Int32), f_J0_indexOf_7cf53_36 h a15 = some (h', r) → XG ω rm_J0_indexOf_7cf53 3 κ L q h 0 0 36 [] [.int a15] := by
  intro h a15 hf
  unfold f_J0_indexOf_7cf53_36 at hf
  exact x_retSI X R hf dJ0_indexOf_7cf53_36
set_option maxRecDepth 100000 in
set_option maxHeartbeats 4000000 in
theorem k_J0_indexOf_7cf53 {ω : XO} (hω : ω.2.2.2.1 = 1) {L : List Nat} {q : Nat → Nat} {h h' : hp} {o : Nat} {p0 : Int32} {p1 : Int32} {r : Int32} (hf : f_J0_indexOf_7cf53 h o p0 p1 = some (h', r)) : XM ω yJ0_indexOf_7cf53 cJ0_indexOf_7cf53 3 (some .int) rm_J0_indexOf_7cf53 L q h [.ref (ω.2.2.2.2.1 o), .int p0, .int p1] (some (.int r)) h' := by
  refine XM_intro [(0, .ref (ω.2.2.2.2.1 o)), (1, .int p0), (2, .int p1)] "java/lang/String" (by decide) rfl rfl (Nat.le_of_ble_eq_true rfl) (fun κ X R => ?_)
  unfold f_J0_indexOf_7cf53 at hf
  refine x_aload_n X dJ0_indexOf_7cf53_0 0 rfl rfl ?_
  obtain ⟨b1, hf⟩ := ckT_some hf
  obtain ⟨r2, g3, hf⟩ := bnr_some hf
  refine c_J0_492 X hω g3 b1 (hR := ⟨Nat.le_of_ble_eq_true rfl, Nat.le_of_ble_eq_true rfl⟩) ⟨Nat.zero_le _, Nat.zero_le _⟩ (Nat.le_of_ble_eq_true rfl) dJ0_indexOf_7cf53_1 ?_
  refine x_if_eq X 23 dJ0_indexOf_7cf53_4 (by decide) (fun c4 => ?_) (fun c4 => ?_)
  · replace hf := (if_pos c4).symm.trans hf
    refine x_aload_n X dJ0_indexOf_7cf53_23 0 rfl rfl ?_
    obtain ⟨b5, hf⟩ := ckT_some hf
    refine x_strV X b5 (mT_7 115 rfl rfl) dJ0_indexOf_7cf53_24 ?_
    refine x_iload_n X dJ0_indexOf_7cf53_27 1 rfl rfl ?_
    refine x_iload_n X dJ0_indexOf_7cf53_28 2 rfl rfl ?_
    refine x_aload_n X dJ0_indexOf_7cf53_29 0 rfl rfl ?_
    obtain ⟨b6, hf⟩ := ckT_some hf
    obtain ⟨r7, g8, hf⟩ := bnr_some hf
    refine c_J0_505 X hω g8 b6 (hR := ⟨Nat.le_of_ble_eq_true rfl, Nat.le_of_ble_eq_true rfl⟩) ⟨Nat.zero_le _, Nat.zero_le _⟩ (Nat.le_of_ble_eq_true rfl) dJ0_indexOf_7cf53_30 ?_
    cases hf
  · replace hf := (if_neg c4).symm.trans hf
    refine x_aload_n X dJ0_indexOf_7cf53_7 0 rfl rfl ?_
    obtain ⟨b9, hf⟩ := ckT_some hf
    refine x_strV X b9 (mT_7 115 rfl rfl) dJ0_indexOf_7cf53_8 ?_
    refine x_iload_n X dJ0_indexOf_7cf53_11 1 rfl rfl ?_
    refine x_iload_n X dJ0_indexOf_7cf53_12 2 rfl rfl ?_
    refine x_aload_n X dJ0_indexOf_7cf53_13 0 rfl rfl ?_
    obtain ⟨b10, hf⟩ := ckT_some hf
    obtain ⟨r11, g12, hf⟩ := bnr_some hf
    refine c_J0_505 X hω g12 b10 (hR := ⟨Nat.le_of_ble_eq_true rfl, Nat.le_of_ble_eq_true rfl⟩) ⟨Nat.zero_le _, Nat.zero_le _⟩ (Nat.le_of_ble_eq_true rfl) dJ0_indexOf_7cf53_14 ?_
    obtain ⟨r13, g14, hf⟩ := bnr_some hf
    refine c_J0_637 X hω g14 (hR := ⟨Nat.le_of_ble_eq_true rfl, Nat.le_of_ble_eq_true rfl⟩) ⟨Nat.zero_le _, Nat.zero_le _⟩ (Nat.le_of_ble_eq_true rfl) dJ0_indexOf_7cf53_17 ?_
    refine x_goto X 36 dJ0_indexOf_7cf53_20 (by decide) ?_
    refine x_lv [] rfl ?_
    exact k_J0_indexOf_7cf53_36 hω X R h _ hf
theorem mt_J0_indexOf_7cf53 : MT yJ0_indexOf_7cf53 cJ0_indexOf_7cf53 3 (some .int) "java/lang/String" 2 := ⟨(mT_3 14 rfl rfl), (mT_3 15 rfl rfl), (mT_1 7 rfl rfl), (mT_3 16 rfl rfl), by decide⟩
theorem c_J0_633 {ω : XO} {rm : Room} {nL : Nat} {κ : XK} {cc : ByteArray} (X : XC ω rm nL κ cc "java/lang/String") (hω : ω.2.2.2.1 = 1) {L : List Nat} {q : Nat → Nat} {h h' : hp} {cells slots pc : Nat} {lv : List (Nat × Value)} {rest : List Value} {o : Nat} {p0 : Int32} {p1 : Int32} {r : Int32} (hf : f_J0_indexOf_7cf53 h o p0 p1 = some (h', r)) (hk : o < 5) (hR : rm_J0_indexOf_7cf53.frames + 1 ≤ rm.frames ∧ 8 + (3 + 11) + rm_J0_indexOf_7cf53.locals ≤ rm.locals) (hcs : cells ≤ rm.cells ∧ slots ≤ rm.slots) (hroom : (rest.map fun v => v.category).sum ≤ 8) (hd : decode cc pc = .ok (.invokevirtual 633, 3)) (kk : XG ω rm nL κ L q h' cells slots (pc + 3) lv (.int r :: rest)) : XG ω rm nL κ L q h cells slots pc lv (.int p1 :: .int p0 :: .ref (ω.2.2.2.2.1 o) :: rest) := x_callVS X [.int p0, .int p1] rest (k_J0_indexOf_7cf53 hω hf) mt_J0_indexOf_7cf53 (mT_3 13 rfl rfl) hR ⟨rfl, rfl⟩ hcs hk rfl hroom hd kk

abbrev rm_J0_indexOf_0f7a4 : Room := { frames := 3, cells := 0, slots := 0, locals := 76 }
def f_J0_indexOf_0f7a4 (h : hp) (o : Nat) (p0 : Int32) : Option (hp × Int32) := (ckT o
 (bnd (f_J0_indexOf_7cf53 h o p0 (0 : Int32)) fun h2 r3 =>
 (some (h2, r3))))
set_option maxRecDepth 100000 in
set_option maxHeartbeats 4000000 in
theorem k_J0_indexOf_0f7a4 {ω : XO} (hω : ω.2.2.2.1 = 1) {L : List Nat} {q : Nat → Nat} {h h' : hp} {o : Nat} {p0 : Int32} {r : Int32} (hf : f_J0_indexOf_0f7a4 h o p0 = some (h', r)) : XM ω yJ0_indexOf_0f7a4 cJ0_indexOf_0f7a4 2 (some .int) rm_J0_indexOf_0f7a4 L q h [.ref (ω.2.2.2.2.1 o), .int p0] (some (.int r)) h' := by
  refine XM_intro [(0, .ref (ω.2.2.2.2.1 o)), (1, .int p0)] "java/lang/String" (by decide) rfl rfl (Nat.le_of_ble_eq_true rfl) (fun κ X R => ?_)
  unfold f_J0_indexOf_0f7a4 at hf
  refine x_aload_n X dJ0_indexOf_0f7a4_0 0 rfl rfl ?_
  refine x_iload_n X dJ0_indexOf_0f7a4_1 1 rfl rfl ?_
  refine x_iconst X (v := 0) dJ0_indexOf_0f7a4_2 (by decide) ?_
  obtain ⟨b1, hf⟩ := ckT_some hf
  obtain ⟨h2, r3, g4, hf⟩ := bnd_some hf
  refine c_J0_633 X hω g4 b1 (hR := ⟨Nat.le_of_ble_eq_true rfl, Nat.le_of_ble_eq_true rfl⟩) ⟨Nat.zero_le _, Nat.zero_le _⟩ (Nat.le_of_ble_eq_true rfl) dJ0_indexOf_0f7a4_3 ?_
  exact x_retSI X R hf dJ0_indexOf_0f7a4_6
theorem mt_J0_indexOf_0f7a4 : MT yJ0_indexOf_0f7a4 cJ0_indexOf_0f7a4 2 (some .int) "java/lang/String" 1 := ⟨(mT_3 10 rfl rfl), (mT_3 11 rfl rfl), (mT_1 7 rfl rfl), (mT_3 12 rfl rfl), by decide⟩
theorem c_X9_94 {ω : XO} {rm : Room} {nL : Nat} {κ : XK} {cc : ByteArray} (X : XC ω rm nL κ cc "SignalBlind$Ward") (hω : ω.2.2.2.1 = 1) {L : List Nat} {q : Nat → Nat} {h h' : hp} {cells slots pc : Nat} {lv : List (Nat × Value)} {rest : List Value} {o : Nat} {p0 : Int32} {r : Int32} (hf : f_J0_indexOf_0f7a4 h o p0 = some (h', r)) (hk : o < 5) (hR : rm_J0_indexOf_0f7a4.frames + 1 ≤ rm.frames ∧ 8 + (2 + 11) + rm_J0_indexOf_0f7a4.locals ≤ rm.locals) (hcs : cells ≤ rm.cells ∧ slots ≤ rm.slots) (hroom : (rest.map fun v => v.category).sum ≤ 8) (hd : decode cc pc = .ok (.invokevirtual 94, 3)) (kk : XG ω rm nL κ L q h' cells slots (pc + 3) lv (.int r :: rest)) : XG ω rm nL κ L q h cells slots pc lv (.int p0 :: .ref (ω.2.2.2.2.1 o) :: rest) := x_callVS X [.int p0] rest (k_J0_indexOf_0f7a4 hω hf) mt_J0_indexOf_0f7a4 (mT_3 9 rfl rfl) hR ⟨rfl, rfl⟩ hcs hk rfl hroom hd kk

abbrev rm_J1_charAt_3b067 : Room := { frames := 2, cells := 0, slots := 0, locals := 43 }
def f_J1_charAt_3b067 (h : hp) (p0 : Nat) (p1 : Int32) : Option Int32 := (ckT p0
 (bnr (f_J0_checkIndex_df160 h p1 (Int32.ofNat (svlen p0))) fun r2 =>
 (ckT p0
 (chk p1 (svlen p0)
 (ckH (((((svb p0 (p1).toNatClampNeg) &&& (255 : Int32))).toUInt32 % 65536).toInt32)
 (some (((((svb p0 (p1).toNatClampNeg) &&& (255 : Int32))).toUInt32 % 65536).toInt32)))))))
set_option maxRecDepth 100000 in
set_option maxHeartbeats 4000000 in
theorem k_J1_charAt_3b067 {ω : XO} (hω : ω.2.2.2.1 = 1) {L : List Nat} {q : Nat → Nat} {h : hp} {p0 : Nat} {p1 : Int32} {r : Int32} (hf : f_J1_charAt_3b067 h p0 p1 = some r) : XM ω yJ1_charAt_3b067 cJ1_charAt_3b067 2 (some .char) rm_J1_charAt_3b067 L q h [.ref (ω.2.2.2.2.2 p0), .int p1] (some (.int r)) h := by
  refine XM_intro [(0, .ref (ω.2.2.2.2.2 p0)), (1, .int p1)] "java/lang/StringLatin1" (by decide) rfl rfl (Nat.le_of_ble_eq_true rfl) (fun κ X R => ?_)
  unfold f_J1_charAt_3b067 at hf
  refine x_iload_n X dJ1_charAt_3b067_0 1 rfl rfl ?_
  refine x_aload_n X dJ1_charAt_3b067_1 0 rfl rfl ?_
  obtain ⟨b1, hf⟩ := ckT_some hf
  refine x_svlen X b1 dJ1_charAt_3b067_2 ?_
  obtain ⟨r2, g3, hf⟩ := bnr_some hf
  refine c_J1_9 X hω g3 (hR := ⟨Nat.le_of_ble_eq_true rfl, Nat.le_of_ble_eq_true rfl⟩) ⟨Nat.zero_le _, Nat.zero_le _⟩ (Nat.le_of_ble_eq_true rfl) dJ1_charAt_3b067_3 ?_
  refine x_aload_n X dJ1_charAt_3b067_6 0 rfl rfl ?_
  refine x_iload_n X dJ1_charAt_3b067_7 1 rfl rfl ?_
  obtain ⟨b4, hf⟩ := ckT_some hf
  obtain ⟨z5, hf⟩ := chk_some hf
  refine x_svld X b4 z5 dJ1_charAt_3b067_8 ?_
  refine x_sipush X (v := 255) dJ1_charAt_3b067_9 (by decide) ?_
  refine x_iand X dJ1_charAt_3b067_12 ?_
  refine x_i2c X dJ1_charAt_3b067_13 ?_
  obtain ⟨z6, hf⟩ := ckH_some hf
  exact x_retRC X R z6 hf dJ1_charAt_3b067_14
theorem mt_J1_charAt_3b067 : MS yJ1_charAt_3b067 cJ1_charAt_3b067 2 (some .char) 2 := ⟨(mT_3 100 rfl rfl), (mT_1 20 rfl rfl), (mT_3 101 rfl rfl), by decide⟩
theorem c_J0_495 {ω : XO} {rm : Room} {nL : Nat} {κ : XK} {cc : ByteArray} (X : XC ω rm nL κ cc "java/lang/String") (hω : ω.2.2.2.1 = 1) {L : List Nat} {q : Nat → Nat} {h : hp} {cells slots pc : Nat} {lv : List (Nat × Value)} {rest : List Value} {p0 : Nat} {p1 : Int32} {r : Int32} (hf : f_J1_charAt_3b067 h p0 p1 = some r) (hR : rm_J1_charAt_3b067.frames + 1 ≤ rm.frames ∧ 8 + (2 + 11) + rm_J1_charAt_3b067.locals ≤ rm.locals) (hcs : cells ≤ rm.cells ∧ slots ≤ rm.slots) (hroom : (rest.map fun v => v.category).sum ≤ 8) (hd : decode cc pc = .ok (.invokestatic 495, 3)) (kk : XG ω rm nL κ L q h cells slots (pc + 3) lv (.int r :: rest)) : XG ω rm nL κ L q h cells slots pc lv (.int p1 :: .ref (ω.2.2.2.2.2 p0) :: rest) := x_callS X [.ref (ω.2.2.2.2.2 p0), .int p1] rest (k_J1_charAt_3b067 hω hf) mt_J1_charAt_3b067 (mT_3 99 rfl rfl) hR ⟨rfl, rfl⟩ hcs rfl hroom hd kk

abbrev rm_J0_charAt_5068e : Room := { frames := 3, cells := 0, slots := 0, locals := 64 }
def f_J0_charAt_5068e (h : hp) (o : Nat) (p0 : Int32) : Option (hp × Int32) := (ckT o
 (bnr (f_J0_isLatin1_aae02 h o) fun r2 =>
 (if r2 = 0 then
 (ckT o
 none)
 else
 (ckT o
 (bnr (f_J1_charAt_3b067 h o p0) fun r7 =>
 (ckH r7
 (some (h, r7))))))))
set_option maxRecDepth 100000 in
set_option maxHeartbeats 4000000 in
theorem k_J0_charAt_5068e {ω : XO} (hω : ω.2.2.2.1 = 1) {L : List Nat} {q : Nat → Nat} {h h' : hp} {o : Nat} {p0 : Int32} {r : Int32} (hf : f_J0_charAt_5068e h o p0 = some (h', r)) : XM ω yJ0_charAt_5068e cJ0_charAt_5068e 2 (some .char) rm_J0_charAt_5068e L q h [.ref (ω.2.2.2.2.1 o), .int p0] (some (.int r)) h' := by
  refine XM_intro [(0, .ref (ω.2.2.2.2.1 o)), (1, .int p0)] "java/lang/String" (by decide) rfl rfl (Nat.le_of_ble_eq_true rfl) (fun κ X R => ?_)
  unfold f_J0_charAt_5068e at hf
  refine x_aload_n X dJ0_charAt_5068e_0 0 rfl rfl ?_
  obtain ⟨b1, hf⟩ := ckT_some hf
  obtain ⟨r2, g3, hf⟩ := bnr_some hf
  refine c_J0_492 X hω g3 b1 (hR := ⟨Nat.le_of_ble_eq_true rfl, Nat.le_of_ble_eq_true rfl⟩) ⟨Nat.zero_le _, Nat.zero_le _⟩ (Nat.le_of_ble_eq_true rfl) dJ0_charAt_5068e_1 ?_
  refine x_if_eq X 16 dJ0_charAt_5068e_4 (by decide) (fun c4 => ?_) (fun c4 => ?_)
  · replace hf := (if_pos c4).symm.trans hf
    refine x_aload_n X dJ0_charAt_5068e_16 0 rfl rfl ?_
    obtain ⟨b5, hf⟩ := ckT_some hf
    refine x_strV X b5 (mT_7 115 rfl rfl) dJ0_charAt_5068e_17 ?_
    refine x_iload_n X dJ0_charAt_5068e_20 1 rfl rfl ?_
    cases hf
  · replace hf := (if_neg c4).symm.trans hf
    refine x_aload_n X dJ0_charAt_5068e_7 0 rfl rfl ?_
    obtain ⟨b6, hf⟩ := ckT_some hf
    refine x_strV X b6 (mT_7 115 rfl rfl) dJ0_charAt_5068e_8 ?_
    refine x_iload_n X dJ0_charAt_5068e_11 1 rfl rfl ?_
    obtain ⟨r7, g8, hf⟩ := bnr_some hf
    refine c_J0_495 X hω g8 (hR := ⟨Nat.le_of_ble_eq_true rfl, Nat.le_of_ble_eq_true rfl⟩) ⟨Nat.zero_le _, Nat.zero_le _⟩ (Nat.le_of_ble_eq_true rfl) dJ0_charAt_5068e_12 ?_
    obtain ⟨z9, hf⟩ := ckH_some hf
    exact x_retSC X R z9 hf dJ0_charAt_5068e_15
theorem mt_J0_charAt_5068e : MT yJ0_charAt_5068e cJ0_charAt_5068e 2 (some .char) "java/lang/String" 1 := ⟨(mT_3 96 rfl rfl), (mT_3 97 rfl rfl), (mT_1 7 rfl rfl), (mT_3 98 rfl rfl), by decide⟩
theorem c_X9_62 {ω : XO} {rm : Room} {nL : Nat} {κ : XK} {cc : ByteArray} (X : XC ω rm nL κ cc "SignalBlind$Ward") (hω : ω.2.2.2.1 = 1) {L : List Nat} {q : Nat → Nat} {h h' : hp} {cells slots pc : Nat} {lv : List (Nat × Value)} {rest : List Value} {o : Nat} {p0 : Int32} {r : Int32} (hf : f_J0_charAt_5068e h o p0 = some (h', r)) (hk : o < 5) (hR : rm_J0_charAt_5068e.frames + 1 ≤ rm.frames ∧ 8 + (2 + 11) + rm_J0_charAt_5068e.locals ≤ rm.locals) (hcs : cells ≤ rm.cells ∧ slots ≤ rm.slots) (hroom : (rest.map fun v => v.category).sum ≤ 8) (hd : decode cc pc = .ok (.invokevirtual 62, 3)) (kk : XG ω rm nL κ L q h' cells slots (pc + 3) lv (.int r :: rest)) : XG ω rm nL κ L q h cells slots pc lv (.int p0 :: .ref (ω.2.2.2.2.1 o) :: rest) := x_callVS X [.int p0] rest (k_J0_charAt_5068e hω hf) mt_J0_charAt_5068e (mT_3 95 rfl rfl) hR ⟨rfl, rfl⟩ hcs hk rfl hroom hd kk

abbrev rm_X9_acceptOneOf : Room := { frames := 4, cells := 0, slots := 0, locals := 97 }
def f_X9_acceptOneOf_50 (h : hp) (a19 : Int32) : Option (hp × Int32) := (some (h, a19))
def f_X9_acceptOneOf_35 (h : hp) (a16 : Nat) (a17 : Int32) : Option (hp × Int32) := (if a17 < 0 then
 (f_X9_acceptOneOf_50 h a17)
 else
 (ckO 1 h a16 11
 (ckO 1 h a16 11
 (nm (sI h a16 8 ((hI h a16 8) + (1 : Int32))) fun h22 =>
 (f_X9_acceptOneOf_50 h22 a17)))))
def f_X9_acceptOneOf (h : hp) (o : Nat) (p0 : Nat) : Option (hp × Int32) := (ckO 1 h o 11
 (ckO 1 h o 11
 (onO (hR h o 7) none fun i3 =>
 (ckO 1 h i3 4
 (if (hI h o 8) < (hI h i3 1) then
 (ckO 1 h o 11
 (onO (hR h o 7) none fun i7 =>
 (ckO 1 h i7 4
 (ckO 1 h o 11
 (ckA 1 h (i7 + 1) 0
 (chk (hI h o 8) (alen h (i7 + 1))
 (ckT p0
 (bnd (f_J0_indexOf_0f7a4 h p0 ((((aI h (i7 + 1) ((hI h o 8)).toNatClampNeg)).toUInt32 % 65536).toInt32)) fun h13 r14 =>
 (f_X9_acceptOneOf_35 h13 o r14)))))))))
 else
 (f_X9_acceptOneOf_35 h o (-1 : Int32)))))))
set_option maxRecDepth 100000 in
set_option maxHeartbeats 4000000 in
theorem k_X9_acceptOneOf_50 {ω : XO} (hω : ω.2.2.2.1 = 1) {κ : XK} (X : XC ω rm_X9_acceptOneOf 3 κ cX9_acceptOneOf "SignalBlind$Ward") {L : List Nat} {q : Nat → Nat} {h' : hp} {r : Int32} (R : XRet ω rm_X9_acceptOneOf κ (some .int) L q h' (some (.int r))) : ∀ (h : hp) (a19 : Int32), f_X9_acceptOneOf_50 h a19 = some (h', r) → XG ω rm_X9_acceptOneOf 3 κ L q h 0 0 50 [(2, .int a19)] [] := by
  intro h a19 hf
  unfold f_X9_acceptOneOf_50 at hf
  refine x_iload_n X dX9_acceptOneOf_50 0 rfl rfl ?_
  exact x_retSI X R hf dX9_acceptOneOf_51
set_option maxRecDepth 100000 in
set_option maxHeartbeats 4000000 in
theorem k_X9_acceptOneOf_35 {ω : XO} (hω : ω.2.2.2.1 = 1) {κ : XK} (X : XC ω rm_X9_acceptOneOf 3 κ cX9_acceptOneOf "SignalBlind$Ward") {L : List Nat} {q : Nat → Nat} {h' : hp} {r : Int32} (R : XRet ω rm_X9_acceptOneOf κ (some .int) L q h' (some (.int r))) : ∀ (h : hp) (a16 : Nat) (a17 : Int32), f_X9_acceptOneOf_35 h a16 a17 = some (h', r) → XG ω rm_X9_acceptOneOf 3 κ L q h 0 0 35 [(0, .ref (q a16))] [.int a17] := by
  intro h a16 a17 hf
  unfold f_X9_acceptOneOf_35 at hf
  refine x_istore_n X [(2, .int a17), (0, .ref (q a16))] dX9_acceptOneOf_35 rfl (Nat.le_of_ble_eq_true rfl) rfl ?_
  refine x_iload_n X dX9_acceptOneOf_36 0 rfl rfl ?_
  refine x_if_lt X 50 dX9_acceptOneOf_37 (by decide) (fun c18 => ?_) (fun c18 => ?_)
  · replace hf := (if_pos c18).symm.trans hf
    refine x_lv [0] rfl ?_
    exact k_X9_acceptOneOf_50 hω X R h _ hf
  · replace hf := (if_neg c18).symm.trans hf
    refine x_aload_n X dX9_acceptOneOf_40 1 rfl rfl ?_
    refine x_dup X dX9_acceptOneOf_41 rfl ?_
    obtain ⟨b20, hf⟩ := ckO_some hf
    refine x_geti X (i := a16) fl_X9_38_10 (sd_of hω b20.1) b20.2 rfl dX9_acceptOneOf_42 ?_
    refine x_iconst X (v := 1) dX9_acceptOneOf_45 (by decide) ?_
    refine x_iadd X dX9_acceptOneOf_46 ?_
    obtain ⟨b21, hf⟩ := ckO_some hf
    refine x_puti X (i := a16) fl_X9_38_10 fw_10 (sd_of hω b21.1) b21.2 rfl rfl rfl rfl dX9_acceptOneOf_47 ?_
    obtain ⟨h22, eh22, hf⟩ := nm_some hf
    refine x_nmh eh22 ?_
    refine x_lv [0] rfl ?_
    exact k_X9_acceptOneOf_50 hω X R h22 _ hf
set_option maxRecDepth 100000 in
set_option maxHeartbeats 4000000 in
theorem k_X9_acceptOneOf {ω : XO} (hω : ω.2.2.2.1 = 1) {L : List Nat} {q : Nat → Nat} {h h' : hp} {o : Nat} {p0 : Nat} {r : Int32} (hf : f_X9_acceptOneOf h o p0 = some (h', r)) : XM ω yX9_acceptOneOf cX9_acceptOneOf 3 (some .int) rm_X9_acceptOneOf L q h [.ref (q o), .ref (ω.2.2.2.2.1 p0)] (some (.int r)) h' := by
  refine XM_intro [(0, .ref (q o)), (1, .ref (ω.2.2.2.2.1 p0))] "SignalBlind$Ward" (by decide) rfl rfl (Nat.le_of_ble_eq_true rfl) (fun κ X R => ?_)
  unfold f_X9_acceptOneOf at hf
  refine x_aload_n X dX9_acceptOneOf_0 0 rfl rfl ?_
  obtain ⟨b1, hf⟩ := ckO_some hf
  refine x_geti X (i := o) fl_X9_38_10 (sd_of hω b1.1) b1.2 rfl dX9_acceptOneOf_1 ?_
  refine x_aload_n X dX9_acceptOneOf_4 0 rfl rfl ?_
  obtain ⟨b2, hf⟩ := ckO_some hf
  refine x_getr X (i := o) fl_X9_34_10 (sd_of hω b2.1) b2.2 rfl dX9_acceptOneOf_5 ?_
  obtain ⟨i3, ei3, hf⟩ := onO_some hf
  refine x_nn ei3 ?_
  obtain ⟨b4, hf⟩ := ckO_some hf
  refine x_geti X (i := i3) fl_X9_49_3 (sd_of hω b4.1) b4.2 rfl dX9_acceptOneOf_8 ?_
  refine x_icmp_ge X 34 dX9_acceptOneOf_11 (by decide) (fun c5 => ?_) (fun c5 => ?_)
  · replace hf := (if_pos c5).symm.trans hf
    refine x_aload_n X dX9_acceptOneOf_14 1 rfl rfl ?_
    refine x_aload_n X dX9_acceptOneOf_15 0 rfl rfl ?_
    obtain ⟨b6, hf⟩ := ckO_some hf
    refine x_getr X (i := o) fl_X9_34_10 (sd_of hω b6.1) b6.2 rfl dX9_acceptOneOf_16 ?_
    obtain ⟨i7, ei7, hf⟩ := onO_some hf
    refine x_nn ei7 ?_
    obtain ⟨b8, hf⟩ := ckO_some hf
    refine x_getsj X (i := i7) 1 fl_X9_91_3 (sd_of hω b8.1) b8.2 rfl (j := (i7 + 1)) rfl dX9_acceptOneOf_19 ?_
    refine x_aload_n X dX9_acceptOneOf_22 0 rfl rfl ?_
    obtain ⟨b9, hf⟩ := ckO_some hf
    refine x_geti X (i := o) fl_X9_38_10 (sd_of hω b9.1) b9.2 rfl dX9_acceptOneOf_23 ?_
    obtain ⟨b10, hf⟩ := ckA_some hf
    obtain ⟨z11, hf⟩ := chk_some hf
    refine x_iald X (i := (i7 + 1)) (n := (alen h (i7 + 1))) (sd_of hω b10.1) b10.2 z11 dX9_acceptOneOf_26 ?_
    refine x_i2c X dX9_acceptOneOf_27 ?_
    obtain ⟨b12, hf⟩ := ckT_some hf
    obtain ⟨h13, r14, g15, hf⟩ := bnd_some hf
    refine c_X9_94 X hω g15 b12 (hR := ⟨Nat.le_of_ble_eq_true rfl, Nat.le_of_ble_eq_true rfl⟩) ⟨Nat.zero_le _, Nat.zero_le _⟩ (Nat.le_of_ble_eq_true rfl) dX9_acceptOneOf_28 ?_
    refine x_goto X 35 dX9_acceptOneOf_31 (by decide) ?_
    refine x_lv [0] rfl ?_
    exact k_X9_acceptOneOf_35 hω X R h13 _ _ hf
  · replace hf := (if_neg c5).symm.trans hf
    refine x_iconst X (v := -1) dX9_acceptOneOf_34 (by decide) ?_
    refine x_lv [0] rfl ?_
    exact k_X9_acceptOneOf_35 hω X R h _ _ hf
theorem mt_X9_acceptOneOf : MT yX9_acceptOneOf cX9_acceptOneOf 3 (some .int) "SignalBlind$Ward" 1 := ⟨(mT_3 7 rfl rfl), (mTp (q := (yX9_acceptOneOf, 9)) (by decide +kernel) rfl), (mT_1 4 rfl rfl), (mT_3 8 rfl rfl), by decide⟩
theorem c_X9_56 {ω : XO} {rm : Room} {nL : Nat} {κ : XK} {cc : ByteArray} (X : XC ω rm nL κ cc "SignalBlind$Ward") (hω : ω.2.2.2.1 = 1) {L : List Nat} {q : Nat → Nat} {h h' : hp} {cells slots pc : Nat} {lv : List (Nat × Value)} {rest : List Value} {o : Nat} {p0 : Nat} {r : Int32} (hf : f_X9_acceptOneOf h o p0 = some (h', r)) (hs : sd ω.2.2.2.1 o = true) (hk : kdOf h o = 10 + 1) (hR : rm_X9_acceptOneOf.frames + 1 ≤ rm.frames ∧ 8 + (3 + 11) + rm_X9_acceptOneOf.locals ≤ rm.locals) (hcs : cells ≤ rm.cells ∧ slots ≤ rm.slots) (hroom : (rest.map fun v => v.category).sum ≤ 8) (hd : decode cc pc = .ok (.invokevirtual 56, 3)) (kk : XG ω rm nL κ L q h' cells slots (pc + 3) lv (.int r :: rest)) : XG ω rm nL κ L q h cells slots pc lv (.ref (ω.2.2.2.2.1 p0) :: .ref (q o) :: rest) := x_callV X [.ref (ω.2.2.2.2.1 p0)] rest (k_X9_acceptOneOf hω hf) mt_X9_acceptOneOf (mT_3 5 rfl rfl) hR ⟨rfl, rfl⟩ hcs hs hk (by decide) rfl rfl hroom hd kk

abbrev rm_X9_number : Room := { frames := 5, cells := 0, slots := 0, locals := 119 }
def f_X9_number_36 (h : hp) (a9 : Int32) : Option (hp × Int32) := (some (h, a9))
def f_X9_number_21 (h : hp) (a6 : Int32) (a7 : Int32) : Option (hp × Int32) := (if a7 < 0 then
 (f_X9_number_36 h a6)
 else
 (f_X9_number_36 h ((a6 * (10 : Int32)) + a7)))
def f_X9_number (h : hp) (o : Nat) : Option (hp × Int32) := (ckO 1 h o 11
 (bnd (f_X9_acceptOneOf h o 4) fun h2 r3 =>
 (if r3 < 0 then
 (f_X9_number_21 h2 r3 (-1 : Int32))
 else
 (ckO 1 h2 o 11
 (bnd (f_X9_acceptOneOf h2 o 4) fun h11 r12 =>
 (f_X9_number_21 h11 r3 r12))))))
set_option maxRecDepth 100000 in
set_option maxHeartbeats 4000000 in
theorem k_X9_number_36 {ω : XO} (hω : ω.2.2.2.1 = 1) {κ : XK} (X : XC ω rm_X9_number 3 κ cX9_number "SignalBlind$Ward") {L : List Nat} {q : Nat → Nat} {h' : hp} {r : Int32} (R : XRet ω rm_X9_number κ (some .int) L q h' (some (.int r))) : ∀ (h : hp) (a9 : Int32), f_X9_number_36 h a9 = some (h', r) → XG ω rm_X9_number 3 κ L q h 0 0 36 [] [.int a9] := by
  intro h a9 hf
  unfold f_X9_number_36 at hf
  exact x_retSI X R hf dX9_number_36
set_option maxRecDepth 100000 in
set_option maxHeartbeats 4000000 in
theorem k_X9_number_21 {ω : XO} (hω : ω.2.2.2.1 = 1) {κ : XK} (X : XC ω rm_X9_number 3 κ cX9_number "SignalBlind$Ward") {L : List Nat} {q : Nat → Nat} {h' : hp} {r : Int32} (R : XRet ω rm_X9_number κ (some .int) L q h' (some (.int r))) : ∀ (h : hp) (a6 : Int32) (a7 : Int32), f_X9_number_21 h a6 a7 = some (h', r) → XG ω rm_X9_number 3 κ L q h 0 0 21 [(1, .int a6)] [.int a7] := by
  intro h a6 a7 hf
  unfold f_X9_number_21 at hf
  refine x_istore_n X [(2, .int a7), (1, .int a6)] dX9_number_21 rfl (Nat.le_of_ble_eq_true rfl) rfl ?_
  refine x_iload_n X dX9_number_22 0 rfl rfl ?_
  refine x_if_ge X 30 dX9_number_23 (by decide) (fun c8 => ?_) (fun c8 => ?_)
  · replace hf := (if_pos c8).symm.trans hf
    refine x_iload_n X dX9_number_26 1 rfl rfl ?_
    refine x_goto X 36 dX9_number_27 (by decide) ?_
    refine x_lv [] rfl ?_
    exact k_X9_number_36 hω X R h _ hf
  · replace hf := (if_neg c8).symm.trans hf
    refine x_iload_n X dX9_number_30 1 rfl rfl ?_
    refine x_bipush X (v := 10) dX9_number_31 (by decide) ?_
    refine x_imul X dX9_number_33 ?_
    refine x_iload_n X dX9_number_34 0 rfl rfl ?_
    refine x_iadd X dX9_number_35 ?_
    refine x_lv [] rfl ?_
    exact k_X9_number_36 hω X R h _ hf
set_option maxRecDepth 100000 in
set_option maxHeartbeats 4000000 in
theorem k_X9_number {ω : XO} (hω : ω.2.2.2.1 = 1) {L : List Nat} {q : Nat → Nat} {h h' : hp} {o : Nat} {r : Int32} (hf : f_X9_number h o = some (h', r)) : XM ω yX9_number cX9_number 3 (some .int) rm_X9_number L q h [.ref (q o)] (some (.int r)) h' := by
  refine XM_intro [(0, .ref (q o))] "SignalBlind$Ward" (by decide) rfl rfl (Nat.le_of_ble_eq_true rfl) (fun κ X R => ?_)
  unfold f_X9_number at hf
  refine x_aload_n X dX9_number_0 0 rfl rfl ?_
  refine x_ldcS X 4 rfl dX9_number_1 ?_
  obtain ⟨b1, hf⟩ := ckO_some hf
  obtain ⟨h2, r3, g4, hf⟩ := bnd_some hf
  refine c_X9_56 X hω g4 (sd_of hω b1.1) b1.2 (hR := ⟨Nat.le_of_ble_eq_true rfl, Nat.le_of_ble_eq_true rfl⟩) ⟨Nat.zero_le _, Nat.zero_le _⟩ (Nat.le_of_ble_eq_true rfl) dX9_number_3 ?_
  refine x_istore_n X [(1, .int r3), (0, .ref (q o))] dX9_number_6 rfl (Nat.le_of_ble_eq_true rfl) rfl ?_
  refine x_iload_n X dX9_number_7 0 rfl rfl ?_
  refine x_if_ge X 15 dX9_number_8 (by decide) (fun c5 => ?_) (fun c5 => ?_)
  · replace hf := (if_pos c5).symm.trans hf
    refine x_iconst X (v := -1) dX9_number_11 (by decide) ?_
    refine x_goto X 21 dX9_number_12 (by decide) ?_
    refine x_lv [0] rfl ?_
    exact k_X9_number_21 hω X R h2 _ _ hf
  · replace hf := (if_neg c5).symm.trans hf
    refine x_aload_n X dX9_number_15 1 rfl rfl ?_
    refine x_ldcS X 4 rfl dX9_number_16 ?_
    obtain ⟨b10, hf⟩ := ckO_some hf
    obtain ⟨h11, r12, g13, hf⟩ := bnd_some hf
    refine c_X9_56 X hω g13 (sd_of hω b10.1) b10.2 (hR := ⟨Nat.le_of_ble_eq_true rfl, Nat.le_of_ble_eq_true rfl⟩) ⟨Nat.zero_le _, Nat.zero_le _⟩ (Nat.le_of_ble_eq_true rfl) dX9_number_18 ?_
    refine x_lv [0] rfl ?_
    exact k_X9_number_21 hω X R h11 _ _ hf
theorem mt_X9_number : MT yX9_number cX9_number 3 (some .int) "SignalBlind$Ward" 0 := ⟨(mT_3 121 rfl rfl), (mTp (q := (yX9_number, 9)) (by decide +kernel) rfl), (mT_1 4 rfl rfl), (mT_3 122 rfl rfl), by decide⟩
theorem c_X9_68 {ω : XO} {rm : Room} {nL : Nat} {κ : XK} {cc : ByteArray} (X : XC ω rm nL κ cc "SignalBlind$Ward") (hω : ω.2.2.2.1 = 1) {L : List Nat} {q : Nat → Nat} {h h' : hp} {cells slots pc : Nat} {lv : List (Nat × Value)} {rest : List Value} {o : Nat} {r : Int32} (hf : f_X9_number h o = some (h', r)) (hs : sd ω.2.2.2.1 o = true) (hk : kdOf h o = 10 + 1) (hR : rm_X9_number.frames + 1 ≤ rm.frames ∧ 8 + (3 + 11) + rm_X9_number.locals ≤ rm.locals) (hcs : cells ≤ rm.cells ∧ slots ≤ rm.slots) (hroom : (rest.map fun v => v.category).sum ≤ 8) (hd : decode cc pc = .ok (.invokevirtual 68, 3)) (kk : XG ω rm nL κ L q h' cells slots (pc + 3) lv (.int r :: rest)) : XG ω rm nL κ L q h cells slots pc lv (.ref (q o) :: rest) := x_callV X [] rest (k_X9_number hω hf) mt_X9_number (mT_3 119 rfl rfl) hR ⟨rfl, rfl⟩ hcs hs hk (by decide) rfl rfl hroom hd kk

theorem mt_X9_single : MT yX9_single cX9_single 5 (some .boolean) "SignalBlind$Ward" 1 := ⟨(mT_3 134 rfl rfl), (mTp (q := (yX9_single, 9)) (by decide +kernel) rfl), (mT_1 4 rfl rfl), (mT_3 135 rfl rfl), by decide⟩
theorem mt_X9_both : MT yX9_both cX9_both 4 (some .boolean) "SignalBlind$Ward" 1 := ⟨(mT_3 130 rfl rfl), (mTp (q := (yX9_both, 9)) (by decide +kernel) rfl), (mT_1 4 rfl rfl), (mT_3 131 rfl rfl), by decide⟩
theorem mt_X9_either : MT yX9_either cX9_either 4 (some .boolean) "SignalBlind$Ward" 1 := ⟨(mT_3 126 rfl rfl), (mTp (q := (yX9_either, 9)) (by decide +kernel) rfl), (mT_1 4 rfl rfl), (mT_3 127 rfl rfl), by decide⟩
theorem cR_X9_82 {ω : XO} {rm rm2 : Room} {nL : Nat} {κ : XK} {cc : ByteArray} (X : XC ω rm nL κ cc "SignalBlind$Ward") (hω : ω.2.2.2.1 = 1) {L : List Nat} {q : Nat → Nat} {h h' : hp} {cells slots pc : Nat} {lv : List (Nat × Value)} {rest : List Value} {o : Nat} {p0 r : Int32} (hM : XM ω yX9_single cX9_single 5 (some .boolean) rm2 L q h [.ref (q o), .int p0] (some (.int r)) h') (hs : sd ω.2.2.2.1 o = true) (hk : kdOf h o = 10 + 1) (hR : rm2.frames + 1 ≤ rm.frames ∧ 8 + (5 + 11) + rm2.locals ≤ rm.locals) (h0 : rm2.cells = 0 ∧ rm2.slots = 0) (hcs : cells ≤ rm.cells ∧ slots ≤ rm.slots) (hroom : (rest.map fun v => v.category).sum ≤ 8) (hd : decode cc pc = .ok (.invokevirtual 82, 3)) (kk : XG ω rm nL κ L q h' cells slots (pc + 3) lv (.int r :: rest)) : XG ω rm nL κ L q h cells slots pc lv (.int p0 :: .ref (q o) :: rest) := x_callV X [.int p0] rest hM mt_X9_single (mT_3 132 rfl rfl) hR h0 hcs hs hk (by decide) rfl rfl hroom hd kk
theorem cR_X9_76 {ω : XO} {rm rm2 : Room} {nL : Nat} {κ : XK} {cc : ByteArray} (X : XC ω rm nL κ cc "SignalBlind$Ward") (hω : ω.2.2.2.1 = 1) {L : List Nat} {q : Nat → Nat} {h h' : hp} {cells slots pc : Nat} {lv : List (Nat × Value)} {rest : List Value} {o : Nat} {p0 r : Int32} (hM : XM ω yX9_both cX9_both 4 (some .boolean) rm2 L q h [.ref (q o), .int p0] (some (.int r)) h') (hs : sd ω.2.2.2.1 o = true) (hk : kdOf h o = 10 + 1) (hR : rm2.frames + 1 ≤ rm.frames ∧ 8 + (4 + 11) + rm2.locals ≤ rm.locals) (h0 : rm2.cells = 0 ∧ rm2.slots = 0) (hcs : cells ≤ rm.cells ∧ slots ≤ rm.slots) (hroom : (rest.map fun v => v.category).sum ≤ 8) (hd : decode cc pc = .ok (.invokevirtual 76, 3)) (kk : XG ω rm nL κ L q h' cells slots (pc + 3) lv (.int r :: rest)) : XG ω rm nL κ L q h cells slots pc lv (.int p0 :: .ref (q o) :: rest) := x_callV X [.int p0] rest hM mt_X9_both (mT_3 128 rfl rfl) hR h0 hcs hs hk (by decide) rfl rfl hroom hd kk
theorem cR_X9_72 {ω : XO} {rm rm2 : Room} {nL : Nat} {κ : XK} {cc : ByteArray} (X : XC ω rm nL κ cc "SignalBlind$Ward") (hω : ω.2.2.2.1 = 1) {L : List Nat} {q : Nat → Nat} {h h' : hp} {cells slots pc : Nat} {lv : List (Nat × Value)} {rest : List Value} {o : Nat} {p0 r : Int32} (hM : XM ω yX9_either cX9_either 4 (some .boolean) rm2 L q h [.ref (q o), .int p0] (some (.int r)) h') (hs : sd ω.2.2.2.1 o = true) (hk : kdOf h o = 10 + 1) (hR : rm2.frames + 1 ≤ rm.frames ∧ 8 + (4 + 11) + rm2.locals ≤ rm.locals) (h0 : rm2.cells = 0 ∧ rm2.slots = 0) (hcs : cells ≤ rm.cells ∧ slots ≤ rm.slots) (hroom : (rest.map fun v => v.category).sum ≤ 8) (hd : decode cc pc = .ok (.invokevirtual 72, 3)) (kk : XG ω rm nL κ L q h' cells slots (pc + 3) lv (.int r :: rest)) : XG ω rm nL κ L q h cells slots pc lv (.int p0 :: .ref (q o) :: rest) := x_callV X [.int p0] rest hM mt_X9_either (mT_3 124 rfl rfl) hR h0 hcs hs hk (by decide) rfl rfl hroom hd kk
def rmB (F Lc : Nat) : Room := { frames := F, cells := 0, slots := 0, locals := Lc }
abbrev rm_X9_either (F Lc : Nat) : Room := { frames := F + 2, cells := 0, slots := 0, locals := Lc + 47 }
abbrev rm_X9_single (F Lc : Nat) : Room := { frames := F + 3, cells := 0, slots := 0, locals := Lc + 70 }
abbrev rm_X9_both (F Lc : Nat) : Room := { frames := F + 1, cells := 0, slots := 0, locals := Lc + 24 }
def f_X9_both_56 (S : hp → Nat → Int32 → Option (hp × Int32)) (h : hp) (a11 : Int32) : Option (hp × Int32) := (ckZ a11
 (some (h, a11)))
def f_X9_both_49 (S : hp → Nat → Int32 → Option (hp × Int32)) (k8 : hp → Nat → Int32 → Int32 → Int32 → Option (hp × Int32)) (h : hp) (a26 : Nat) (a27 : Int32) (a28 : Int32) (a29 : Int32) : Option (hp × Int32) := (nm (a28 + (1 : Int32)) fun v30 =>
 (k8 h a26 a27 a29 v30))
def f_X9_both_48 (S : hp → Nat → Int32 → Option (hp × Int32)) (k8 : hp → Nat → Int32 → Int32 → Int32 → Option (hp × Int32)) (h : hp) (a23 : Nat) (a24 : Int32) (a25 : Int32) : Option (hp × Int32) := (f_X9_both_49 S k8 h a23 a24 a25 (0 : Int32))
def f_X9_both_8 (S : hp → Nat → Int32 → Option (hp × Int32)) : Nat → hp → Nat → Int32 → Int32 → Int32 → Option (hp × Int32)
  | 0, _, _, _, _, _ => none
  | n + 1, h, a5, a6, a7, a8 => (if a8 < (100 : Int32) then
 (if a7 = 0 then
 (f_X9_both_56 S h a7)
 else
 (ckO 1 h a5 11
 (bnd (f_X9_accept h a5 (38 : Int32)) fun h14 r15 =>
 (if r15 = 0 then
 (f_X9_both_56 S h14 a7)
 else
 (ckO 1 h14 a5 11
 (bnd (S h14 a5 a6) fun h19 r20 =>
 (if r20 = 0 then
 (f_X9_both_48 S (f_X9_both_8 S n) h19 a5 a6 a8)
 else
 (ckO 1 h19 a5 11
 (bnd (f_X9_addStep h19 a5 (-2 : Int32)) fun h32 r33 =>
 (if r33 = 0 then
 (f_X9_both_48 S (f_X9_both_8 S n) h32 a5 a6 a8)
 else
 (f_X9_both_49 S (f_X9_both_8 S n) h32 a5 a6 a8 (1 : Int32))))))))))))
 else
 (f_X9_both_56 S h a7))
def f_X9_both (S : hp → Nat → Int32 → Option (hp × Int32)) (h : hp) (o : Nat) (p0 : Int32) : Option (hp × Int32) := (ckO 1 h o 11
 (bnd (S h o p0) fun h2 r3 =>
 (f_X9_both_8 S 2000 h2 o p0 r3 (0 : Int32))))
set_option maxRecDepth 100000 in
set_option maxHeartbeats 4000000 in
theorem k_X9_both_56 {ω : XO} (hω : ω.2.2.2.1 = 1) {S : hp → Nat → Int32 → Option (hp × Int32)} {F Lc : Nat} {κ : XK} (X : XC ω (rm_X9_both F Lc) 4 κ cX9_both "SignalBlind$Ward") {L : List Nat} {q : Nat → Nat} {h' : hp} {r : Int32} (R : XRet ω (rm_X9_both F Lc) κ (some .boolean) L q h' (some (.int r))) (hF : 6 ≤ F) (hLc : 200 ≤ Lc) (hS : ∀ (h h' : hp) (o : Nat) (p0 r : Int32), S h o p0 = some (h', r) → XM ω yX9_single cX9_single 5 (some .boolean) (rmB F Lc) L q h [.ref (q o), .int p0] (some (.int r)) h') : ∀ (h : hp) (a11 : Int32), f_X9_both_56 S h a11 = some (h', r) → XG ω (rm_X9_both F Lc) 4 κ L q h 0 0 56 [(2, .int a11)] [] := by
  intro h a11 hf
  unfold f_X9_both_56 at hf
  refine x_iload_n X dX9_both_56 0 rfl rfl ?_
  obtain ⟨z12, hf⟩ := ckZ_some hf
  exact x_retSZ X R z12 hf dX9_both_57
set_option maxRecDepth 100000 in
set_option maxHeartbeats 4000000 in
theorem k_X9_both_49 {ω : XO} (hω : ω.2.2.2.1 = 1) {S : hp → Nat → Int32 → Option (hp × Int32)} {F Lc : Nat} {κ : XK} (X : XC ω (rm_X9_both F Lc) 4 κ cX9_both "SignalBlind$Ward") {L : List Nat} {q : Nat → Nat} {h' : hp} {r : Int32} (R : XRet ω (rm_X9_both F Lc) κ (some .boolean) L q h' (some (.int r))) (hF : 6 ≤ F) (hLc : 200 ≤ Lc) (hS : ∀ (h h' : hp) (o : Nat) (p0 r : Int32), S h o p0 = some (h', r) → XM ω yX9_single cX9_single 5 (some .boolean) (rmB F Lc) L q h [.ref (q o), .int p0] (some (.int r)) h') (k8 : hp → Nat → Int32 → Int32 → Int32 → Option (hp × Int32)) (hk8 : ∀ (h : hp) (a5 : Nat) (a6 : Int32) (a7 : Int32) (a8 : Int32), k8 h a5 a6 a7 a8 = some (h', r) → XG ω (rm_X9_both F Lc) 4 κ L q h 0 0 8 [(0, .ref (q a5)), (1, .int a6), (2, .int a7), (3, .int a8)] []) : ∀ (h : hp) (a26 : Nat) (a27 : Int32) (a28 : Int32) (a29 : Int32), f_X9_both_49 S k8 h a26 a27 a28 a29 = some (h', r) → XG ω (rm_X9_both F Lc) 4 κ L q h 0 0 49 [(0, .ref (q a26)), (1, .int a27), (3, .int a28)] [.int a29] := by
  intro h a26 a27 a28 a29 hf
  unfold f_X9_both_49 at hf
  refine x_istore_n X [(2, .int a29), (0, .ref (q a26)), (1, .int a27), (3, .int a28)] dX9_both_49 rfl (Nat.le_of_ble_eq_true rfl) rfl ?_
  obtain ⟨v30, ev30, hf⟩ := nm_some hf
  refine x_iincN X (v := 1) ev30 [(3, .int v30), (2, .int a29), (0, .ref (q a26)), (1, .int a27)] dX9_both_50 3 rfl (by decide) (Nat.le_of_ble_eq_true rfl) rfl ?_
  refine x_goto X 8 dX9_both_53 (by decide) ?_
  refine x_lv [2, 3, 1, 0] rfl ?_
  exact hk8 h _ _ _ _ hf
set_option maxRecDepth 100000 in
set_option maxHeartbeats 4000000 in
theorem k_X9_both_48 {ω : XO} (hω : ω.2.2.2.1 = 1) {S : hp → Nat → Int32 → Option (hp × Int32)} {F Lc : Nat} {κ : XK} (X : XC ω (rm_X9_both F Lc) 4 κ cX9_both "SignalBlind$Ward") {L : List Nat} {q : Nat → Nat} {h' : hp} {r : Int32} (R : XRet ω (rm_X9_both F Lc) κ (some .boolean) L q h' (some (.int r))) (hF : 6 ≤ F) (hLc : 200 ≤ Lc) (hS : ∀ (h h' : hp) (o : Nat) (p0 r : Int32), S h o p0 = some (h', r) → XM ω yX9_single cX9_single 5 (some .boolean) (rmB F Lc) L q h [.ref (q o), .int p0] (some (.int r)) h') (k8 : hp → Nat → Int32 → Int32 → Int32 → Option (hp × Int32)) (hk8 : ∀ (h : hp) (a5 : Nat) (a6 : Int32) (a7 : Int32) (a8 : Int32), k8 h a5 a6 a7 a8 = some (h', r) → XG ω (rm_X9_both F Lc) 4 κ L q h 0 0 8 [(0, .ref (q a5)), (1, .int a6), (2, .int a7), (3, .int a8)] []) : ∀ (h : hp) (a23 : Nat) (a24 : Int32) (a25 : Int32), f_X9_both_48 S k8 h a23 a24 a25 = some (h', r) → XG ω (rm_X9_both F Lc) 4 κ L q h 0 0 48 [(0, .ref (q a23)), (1, .int a24), (3, .int a25)] [] := by
  intro h a23 a24 a25 hf
  unfold f_X9_both_48 at hf
  refine x_iconst X (v := 0) dX9_both_48 (by decide) ?_
  refine x_lv [0, 1, 2] rfl ?_
  exact k_X9_both_49 hω X R hF hLc hS _ hk8 h _ _ _ _ hf
set_option maxRecDepth 100000 in
set_option maxHeartbeats 4000000 in
theorem k_X9_both_8 {ω : XO} (hω : ω.2.2.2.1 = 1) {S : hp → Nat → Int32 → Option (hp × Int32)} {F Lc : Nat} {κ : XK} (X : XC ω (rm_X9_both F Lc) 4 κ cX9_both "SignalBlind$Ward") {L : List Nat} {q : Nat → Nat} {h' : hp} {r : Int32} (R : XRet ω (rm_X9_both F Lc) κ (some .boolean) L q h' (some (.int r))) (hF : 6 ≤ F) (hLc : 200 ≤ Lc) (hS : ∀ (h h' : hp) (o : Nat) (p0 r : Int32), S h o p0 = some (h', r) → XM ω yX9_single cX9_single 5 (some .boolean) (rmB F Lc) L q h [.ref (q o), .int p0] (some (.int r)) h') : ∀ (n : Nat) (h : hp) (a5 : Nat) (a6 : Int32) (a7 : Int32) (a8 : Int32), f_X9_both_8 S n h a5 a6 a7 a8 = some (h', r) → XG ω (rm_X9_both F Lc) 4 κ L q h 0 0 8 [(0, .ref (q a5)), (1, .int a6), (2, .int a7), (3, .int a8)] [] := by
  intro n
  induction n with
  | zero =>
    intro h a5 a6 a7 a8 hf
    have hf : (none : Option (hp × Int32)) = some (h', r) := hf
    cases hf
  | succ n ih =>
    intro h a5 a6 a7 a8 hf
    rw [f_X9_both_8] at hf
    refine x_iload_n X dX9_both_8 3 rfl rfl ?_
    refine x_bipush X (v := 100) dX9_both_9 (by decide) ?_
    refine x_icmp_ge X 56 dX9_both_11 (by decide) (fun c9 => ?_) (fun c9 => ?_)
    · replace hf := (if_pos c9).symm.trans hf
      refine x_iload_n X dX9_both_14 2 rfl rfl ?_
      refine x_if_eq X 56 dX9_both_15 (by decide) (fun c10 => ?_) (fun c10 => ?_)
      · replace hf := (if_pos c10).symm.trans hf
        refine x_lv [2] rfl ?_
        exact k_X9_both_56 hω X R hF hLc hS h _ hf
      · replace hf := (if_neg c10).symm.trans hf
        refine x_aload_n X dX9_both_18 0 rfl rfl ?_
        refine x_bipush X (v := 38) dX9_both_19 (by decide) ?_
        obtain ⟨b13, hf⟩ := ckO_some hf
        obtain ⟨h14, r15, g16, hf⟩ := bnd_some hf
        refine c_X9_45 X hω g16 (sd_of hω b13.1) b13.2 (hR := (by constructor <;> simp only [rm_X9_single, rm_X9_both, rm_X9_either, rmB, rm_X9_accept] <;> omega)) ⟨Nat.zero_le _, Nat.zero_le _⟩ (Nat.le_of_ble_eq_true rfl) dX9_both_21 ?_
        refine x_if_eq X 56 dX9_both_24 (by decide) (fun c17 => ?_) (fun c17 => ?_)
        · replace hf := (if_pos c17).symm.trans hf
          refine x_lv [2] rfl ?_
          exact k_X9_both_56 hω X R hF hLc hS h14 _ hf
        · replace hf := (if_neg c17).symm.trans hf
          refine x_aload_n X dX9_both_27 0 rfl rfl ?_
          refine x_iload_n X dX9_both_28 1 rfl rfl ?_
          obtain ⟨b18, hf⟩ := ckO_some hf
          obtain ⟨h19, r20, g21, hf⟩ := bnd_some hf
          refine cR_X9_82 X hω (hS _ _ _ _ _ g21) (sd_of hω b18.1) b18.2 (hR := (by constructor <;> simp only [rm_X9_single, rm_X9_both, rm_X9_either, rmB] <;> omega)) ⟨rfl, rfl⟩ ⟨Nat.zero_le _, Nat.zero_le _⟩ (Nat.le_of_ble_eq_true rfl) dX9_both_29 ?_
          refine x_if_eq X 48 dX9_both_32 (by decide) (fun c22 => ?_) (fun c22 => ?_)
          · replace hf := (if_pos c22).symm.trans hf
            refine x_lv [0, 1, 3] rfl ?_
            exact k_X9_both_48 hω X R hF hLc hS _ ih h19 _ _ _ hf
          · replace hf := (if_neg c22).symm.trans hf
            refine x_aload_n X dX9_both_35 0 rfl rfl ?_
            refine x_bipush X (v := -2) dX9_both_36 (by decide) ?_
            obtain ⟨b31, hf⟩ := ckO_some hf
            obtain ⟨h32, r33, g34, hf⟩ := bnd_some hf
            refine c_X9_79 X hω g34 (sd_of hω b31.1) b31.2 (hR := (by constructor <;> simp only [rm_X9_single, rm_X9_both, rm_X9_either, rmB, rm_X9_addStep] <;> omega)) ⟨Nat.zero_le _, Nat.zero_le _⟩ (Nat.le_of_ble_eq_true rfl) dX9_both_38 ?_
            refine x_if_eq X 48 dX9_both_41 (by decide) (fun c35 => ?_) (fun c35 => ?_)
            · replace hf := (if_pos c35).symm.trans hf
              refine x_lv [0, 1, 3] rfl ?_
              exact k_X9_both_48 hω X R hF hLc hS _ ih h32 _ _ _ hf
            · replace hf := (if_neg c35).symm.trans hf
              refine x_iconst X (v := 1) dX9_both_44 (by decide) ?_
              refine x_goto X 49 dX9_both_45 (by decide) ?_
              refine x_lv [0, 1, 3] rfl ?_
              exact k_X9_both_49 hω X R hF hLc hS _ ih h32 _ _ _ _ hf
    · replace hf := (if_neg c9).symm.trans hf
      refine x_lv [2] rfl ?_
      exact k_X9_both_56 hω X R hF hLc hS h _ hf
set_option maxRecDepth 100000 in
set_option maxHeartbeats 4000000 in
theorem k_X9_both {ω : XO} (hω : ω.2.2.2.1 = 1) {L : List Nat} {q : Nat → Nat} {S : hp → Nat → Int32 → Option (hp × Int32)} {F Lc : Nat} (hF : 6 ≤ F) (hLc : 200 ≤ Lc) (hS : ∀ (h h' : hp) (o : Nat) (p0 r : Int32), S h o p0 = some (h', r) → XM ω yX9_single cX9_single 5 (some .boolean) (rmB F Lc) L q h [.ref (q o), .int p0] (some (.int r)) h') {h h' : hp} {o : Nat} {p0 r : Int32} (hf : f_X9_both S h o p0 = some (h', r)) : XM ω yX9_both cX9_both 4 (some .boolean) (rm_X9_both F Lc) L q h [.ref (q o), .int p0] (some (.int r)) h' := by
  refine XM_intro [(0, .ref (q o)), (1, .int p0)] "SignalBlind$Ward" (by decide) rfl rfl (Nat.le_of_ble_eq_true rfl) (fun κ X R => ?_)
  unfold f_X9_both at hf
  refine x_aload_n X dX9_both_0 0 rfl rfl ?_
  refine x_iload_n X dX9_both_1 1 rfl rfl ?_
  obtain ⟨b1, hf⟩ := ckO_some hf
  obtain ⟨h2, r3, g4, hf⟩ := bnd_some hf
  refine cR_X9_82 X hω (hS _ _ _ _ _ g4) (sd_of hω b1.1) b1.2 (hR := (by constructor <;> simp only [rm_X9_single, rm_X9_both, rm_X9_either, rmB] <;> omega)) ⟨rfl, rfl⟩ ⟨Nat.zero_le _, Nat.zero_le _⟩ (Nat.le_of_ble_eq_true rfl) dX9_both_2 ?_
  refine x_istore_n X [(2, .int r3), (0, .ref (q o)), (1, .int p0)] dX9_both_5 rfl (Nat.le_of_ble_eq_true rfl) rfl ?_
  refine x_iconst X (v := 0) dX9_both_6 (by decide) ?_
  refine x_istore_n X [(3, .int (0 : Int32)), (2, .int r3), (0, .ref (q o)), (1, .int p0)] dX9_both_7 rfl (Nat.le_of_ble_eq_true rfl) rfl ?_
  refine x_lv [2, 3, 1, 0] rfl ?_
  exact k_X9_both_8 hω X R hF hLc hS _ h2 _ _ _ _ hf

def f_X9_either_56 (S : hp → Nat → Int32 → Option (hp × Int32)) (h : hp) (a11 : Int32) : Option (hp × Int32) := (ckZ a11
 (some (h, a11)))
def f_X9_either_49 (S : hp → Nat → Int32 → Option (hp × Int32)) (k8 : hp → Nat → Int32 → Int32 → Int32 → Option (hp × Int32)) (h : hp) (a26 : Nat) (a27 : Int32) (a28 : Int32) (a29 : Int32) : Option (hp × Int32) := (nm (a28 + (1 : Int32)) fun v30 =>
 (k8 h a26 a27 a29 v30))
def f_X9_either_48 (S : hp → Nat → Int32 → Option (hp × Int32)) (k8 : hp → Nat → Int32 → Int32 → Int32 → Option (hp × Int32)) (h : hp) (a23 : Nat) (a24 : Int32) (a25 : Int32) : Option (hp × Int32) := (f_X9_either_49 S k8 h a23 a24 a25 (0 : Int32))
def f_X9_either_8 (S : hp → Nat → Int32 → Option (hp × Int32)) : Nat → hp → Nat → Int32 → Int32 → Int32 → Option (hp × Int32)
  | 0, _, _, _, _, _ => none
  | n + 1, h, a5, a6, a7, a8 => (if a8 < (100 : Int32) then
 (if a7 = 0 then
 (f_X9_either_56 S h a7)
 else
 (ckO 1 h a5 11
 (bnd (f_X9_accept h a5 (124 : Int32)) fun h14 r15 =>
 (if r15 = 0 then
 (f_X9_either_56 S h14 a7)
 else
 (ckO 1 h14 a5 11
 (bnd (f_X9_both S h14 a5 a6) fun h19 r20 =>
 (if r20 = 0 then
 (f_X9_either_48 S (f_X9_either_8 S n) h19 a5 a6 a8)
 else
 (ckO 1 h19 a5 11
 (bnd (f_X9_addStep h19 a5 (-3 : Int32)) fun h32 r33 =>
 (if r33 = 0 then
 (f_X9_either_48 S (f_X9_either_8 S n) h32 a5 a6 a8)
 else
 (f_X9_either_49 S (f_X9_either_8 S n) h32 a5 a6 a8 (1 : Int32))))))))))))
 else
 (f_X9_either_56 S h a7))
def f_X9_either (S : hp → Nat → Int32 → Option (hp × Int32)) (h : hp) (o : Nat) (p0 : Int32) : Option (hp × Int32) := (ckO 1 h o 11
 (bnd (f_X9_both S h o p0) fun h2 r3 =>
 (f_X9_either_8 S 2000 h2 o p0 r3 (0 : Int32))))
set_option maxRecDepth 100000 in
set_option maxHeartbeats 4000000 in
theorem k_X9_either_56 {ω : XO} (hω : ω.2.2.2.1 = 1) {S : hp → Nat → Int32 → Option (hp × Int32)} {F Lc : Nat} {κ : XK} (X : XC ω (rm_X9_either F Lc) 4 κ cX9_either "SignalBlind$Ward") {L : List Nat} {q : Nat → Nat} {h' : hp} {r : Int32} (R : XRet ω (rm_X9_either F Lc) κ (some .boolean) L q h' (some (.int r))) (hF : 6 ≤ F) (hLc : 200 ≤ Lc) (hS : ∀ (h h' : hp) (o : Nat) (p0 r : Int32), S h o p0 = some (h', r) → XM ω yX9_single cX9_single 5 (some .boolean) (rmB F Lc) L q h [.ref (q o), .int p0] (some (.int r)) h') : ∀ (h : hp) (a11 : Int32), f_X9_either_56 S h a11 = some (h', r) → XG ω (rm_X9_either F Lc) 4 κ L q h 0 0 56 [(2, .int a11)] [] := by
  intro h a11 hf
  unfold f_X9_either_56 at hf
  refine x_iload_n X dX9_either_56 0 rfl rfl ?_
  obtain ⟨z12, hf⟩ := ckZ_some hf
  exact x_retSZ X R z12 hf dX9_either_57
set_option maxRecDepth 100000 in
set_option maxHeartbeats 4000000 in
theorem k_X9_either_49 {ω : XO} (hω : ω.2.2.2.1 = 1) {S : hp → Nat → Int32 → Option (hp × Int32)} {F Lc : Nat} {κ : XK} (X : XC ω (rm_X9_either F Lc) 4 κ cX9_either "SignalBlind$Ward") {L : List Nat} {q : Nat → Nat} {h' : hp} {r : Int32} (R : XRet ω (rm_X9_either F Lc) κ (some .boolean) L q h' (some (.int r))) (hF : 6 ≤ F) (hLc : 200 ≤ Lc) (hS : ∀ (h h' : hp) (o : Nat) (p0 r : Int32), S h o p0 = some (h', r) → XM ω yX9_single cX9_single 5 (some .boolean) (rmB F Lc) L q h [.ref (q o), .int p0] (some (.int r)) h') (k8 : hp → Nat → Int32 → Int32 → Int32 → Option (hp × Int32)) (hk8 : ∀ (h : hp) (a5 : Nat) (a6 : Int32) (a7 : Int32) (a8 : Int32), k8 h a5 a6 a7 a8 = some (h', r) → XG ω (rm_X9_either F Lc) 4 κ L q h 0 0 8 [(0, .ref (q a5)), (1, .int a6), (2, .int a7), (3, .int a8)] []) : ∀ (h : hp) (a26 : Nat) (a27 : Int32) (a28 : Int32) (a29 : Int32), f_X9_either_49 S k8 h a26 a27 a28 a29 = some (h', r) → XG ω (rm_X9_either F Lc) 4 κ L q h 0 0 49 [(0, .ref (q a26)), (1, .int a27), (3, .int a28)] [.int a29] := by
  intro h a26 a27 a28 a29 hf
  unfold f_X9_either_49 at hf
  refine x_istore_n X [(2, .int a29), (0, .ref (q a26)), (1, .int a27), (3, .int a28)] dX9_either_49 rfl (Nat.le_of_ble_eq_true rfl) rfl ?_
  obtain ⟨v30, ev30, hf⟩ := nm_some hf
  refine x_iincN X (v := 1) ev30 [(3, .int v30), (2, .int a29), (0, .ref (q a26)), (1, .int a27)] dX9_either_50 3 rfl (by decide) (Nat.le_of_ble_eq_true rfl) rfl ?_
  refine x_goto X 8 dX9_either_53 (by decide) ?_
  refine x_lv [2, 3, 1, 0] rfl ?_
  exact hk8 h _ _ _ _ hf
set_option maxRecDepth 100000 in
set_option maxHeartbeats 4000000 in
theorem k_X9_either_48 {ω : XO} (hω : ω.2.2.2.1 = 1) {S : hp → Nat → Int32 → Option (hp × Int32)} {F Lc : Nat} {κ : XK} (X : XC ω (rm_X9_either F Lc) 4 κ cX9_either "SignalBlind$Ward") {L : List Nat} {q : Nat → Nat} {h' : hp} {r : Int32} (R : XRet ω (rm_X9_either F Lc) κ (some .boolean) L q h' (some (.int r))) (hF : 6 ≤ F) (hLc : 200 ≤ Lc) (hS : ∀ (h h' : hp) (o : Nat) (p0 r : Int32), S h o p0 = some (h', r) → XM ω yX9_single cX9_single 5 (some .boolean) (rmB F Lc) L q h [.ref (q o), .int p0] (some (.int r)) h') (k8 : hp → Nat → Int32 → Int32 → Int32 → Option (hp × Int32)) (hk8 : ∀ (h : hp) (a5 : Nat) (a6 : Int32) (a7 : Int32) (a8 : Int32), k8 h a5 a6 a7 a8 = some (h', r) → XG ω (rm_X9_either F Lc) 4 κ L q h 0 0 8 [(0, .ref (q a5)), (1, .int a6), (2, .int a7), (3, .int a8)] []) : ∀ (h : hp) (a23 : Nat) (a24 : Int32) (a25 : Int32), f_X9_either_48 S k8 h a23 a24 a25 = some (h', r) → XG ω (rm_X9_either F Lc) 4 κ L q h 0 0 48 [(0, .ref (q a23)), (1, .int a24), (3, .int a25)] [] := by
  intro h a23 a24 a25 hf
  unfold f_X9_either_48 at hf
  refine x_iconst X (v := 0) dX9_either_48 (by decide) ?_
  refine x_lv [0, 1, 2] rfl ?_
  exact k_X9_either_49 hω X R hF hLc hS _ hk8 h _ _ _ _ hf
set_option maxRecDepth 100000 in
set_option maxHeartbeats 4000000 in
theorem k_X9_either_8 {ω : XO} (hω : ω.2.2.2.1 = 1) {S : hp → Nat → Int32 → Option (hp × Int32)} {F Lc : Nat} {κ : XK} (X : XC ω (rm_X9_either F Lc) 4 κ cX9_either "SignalBlind$Ward") {L : List Nat} {q : Nat → Nat} {h' : hp} {r : Int32} (R : XRet ω (rm_X9_either F Lc) κ (some .boolean) L q h' (some (.int r))) (hF : 6 ≤ F) (hLc : 200 ≤ Lc) (hS : ∀ (h h' : hp) (o : Nat) (p0 r : Int32), S h o p0 = some (h', r) → XM ω yX9_single cX9_single 5 (some .boolean) (rmB F Lc) L q h [.ref (q o), .int p0] (some (.int r)) h') : ∀ (n : Nat) (h : hp) (a5 : Nat) (a6 : Int32) (a7 : Int32) (a8 : Int32), f_X9_either_8 S n h a5 a6 a7 a8 = some (h', r) → XG ω (rm_X9_either F Lc) 4 κ L q h 0 0 8 [(0, .ref (q a5)), (1, .int a6), (2, .int a7), (3, .int a8)] [] := by
  intro n
  induction n with
  | zero =>
    intro h a5 a6 a7 a8 hf
    have hf : (none : Option (hp × Int32)) = some (h', r) := hf
    cases hf
  | succ n ih =>
    intro h a5 a6 a7 a8 hf
    rw [f_X9_either_8] at hf
    refine x_iload_n X dX9_either_8 3 rfl rfl ?_
    refine x_bipush X (v := 100) dX9_either_9 (by decide) ?_
    refine x_icmp_ge X 56 dX9_either_11 (by decide) (fun c9 => ?_) (fun c9 => ?_)
    · replace hf := (if_pos c9).symm.trans hf
      refine x_iload_n X dX9_either_14 2 rfl rfl ?_
      refine x_if_eq X 56 dX9_either_15 (by decide) (fun c10 => ?_) (fun c10 => ?_)
      · replace hf := (if_pos c10).symm.trans hf
        refine x_lv [2] rfl ?_
        exact k_X9_either_56 hω X R hF hLc hS h _ hf
      · replace hf := (if_neg c10).symm.trans hf
        refine x_aload_n X dX9_either_18 0 rfl rfl ?_
        refine x_bipush X (v := 124) dX9_either_19 (by decide) ?_
        obtain ⟨b13, hf⟩ := ckO_some hf
        obtain ⟨h14, r15, g16, hf⟩ := bnd_some hf
        refine c_X9_45 X hω g16 (sd_of hω b13.1) b13.2 (hR := (by constructor <;> simp only [rm_X9_single, rm_X9_both, rm_X9_either, rmB, rm_X9_accept] <;> omega)) ⟨Nat.zero_le _, Nat.zero_le _⟩ (Nat.le_of_ble_eq_true rfl) dX9_either_21 ?_
        refine x_if_eq X 56 dX9_either_24 (by decide) (fun c17 => ?_) (fun c17 => ?_)
        · replace hf := (if_pos c17).symm.trans hf
          refine x_lv [2] rfl ?_
          exact k_X9_either_56 hω X R hF hLc hS h14 _ hf
        · replace hf := (if_neg c17).symm.trans hf
          refine x_aload_n X dX9_either_27 0 rfl rfl ?_
          refine x_iload_n X dX9_either_28 1 rfl rfl ?_
          obtain ⟨b18, hf⟩ := ckO_some hf
          obtain ⟨h19, r20, g21, hf⟩ := bnd_some hf
          refine cR_X9_76 X hω (k_X9_both hω hF hLc hS g21) (sd_of hω b18.1) b18.2 (hR := (by constructor <;> simp only [rm_X9_single, rm_X9_both, rm_X9_either, rmB] <;> omega)) ⟨rfl, rfl⟩ ⟨Nat.zero_le _, Nat.zero_le _⟩ (Nat.le_of_ble_eq_true rfl) dX9_either_29 ?_
          refine x_if_eq X 48 dX9_either_32 (by decide) (fun c22 => ?_) (fun c22 => ?_)
          · replace hf := (if_pos c22).symm.trans hf
            refine x_lv [0, 1, 3] rfl ?_
            exact k_X9_either_48 hω X R hF hLc hS _ ih h19 _ _ _ hf
          · replace hf := (if_neg c22).symm.trans hf
            refine x_aload_n X dX9_either_35 0 rfl rfl ?_
            refine x_bipush X (v := -3) dX9_either_36 (by decide) ?_
            obtain ⟨b31, hf⟩ := ckO_some hf
            obtain ⟨h32, r33, g34, hf⟩ := bnd_some hf
            refine c_X9_79 X hω g34 (sd_of hω b31.1) b31.2 (hR := (by constructor <;> simp only [rm_X9_single, rm_X9_both, rm_X9_either, rmB, rm_X9_addStep] <;> omega)) ⟨Nat.zero_le _, Nat.zero_le _⟩ (Nat.le_of_ble_eq_true rfl) dX9_either_38 ?_
            refine x_if_eq X 48 dX9_either_41 (by decide) (fun c35 => ?_) (fun c35 => ?_)
            · replace hf := (if_pos c35).symm.trans hf
              refine x_lv [0, 1, 3] rfl ?_
              exact k_X9_either_48 hω X R hF hLc hS _ ih h32 _ _ _ hf
            · replace hf := (if_neg c35).symm.trans hf
              refine x_iconst X (v := 1) dX9_either_44 (by decide) ?_
              refine x_goto X 49 dX9_either_45 (by decide) ?_
              refine x_lv [0, 1, 3] rfl ?_
              exact k_X9_either_49 hω X R hF hLc hS _ ih h32 _ _ _ _ hf
    · replace hf := (if_neg c9).symm.trans hf
      refine x_lv [2] rfl ?_
      exact k_X9_either_56 hω X R hF hLc hS h _ hf
set_option maxRecDepth 100000 in
set_option maxHeartbeats 4000000 in
theorem k_X9_either {ω : XO} (hω : ω.2.2.2.1 = 1) {L : List Nat} {q : Nat → Nat} {S : hp → Nat → Int32 → Option (hp × Int32)} {F Lc : Nat} (hF : 6 ≤ F) (hLc : 200 ≤ Lc) (hS : ∀ (h h' : hp) (o : Nat) (p0 r : Int32), S h o p0 = some (h', r) → XM ω yX9_single cX9_single 5 (some .boolean) (rmB F Lc) L q h [.ref (q o), .int p0] (some (.int r)) h') {h h' : hp} {o : Nat} {p0 r : Int32} (hf : f_X9_either S h o p0 = some (h', r)) : XM ω yX9_either cX9_either 4 (some .boolean) (rm_X9_either F Lc) L q h [.ref (q o), .int p0] (some (.int r)) h' := by
  refine XM_intro [(0, .ref (q o)), (1, .int p0)] "SignalBlind$Ward" (by decide) rfl rfl (Nat.le_of_ble_eq_true rfl) (fun κ X R => ?_)
  unfold f_X9_either at hf
  refine x_aload_n X dX9_either_0 0 rfl rfl ?_
  refine x_iload_n X dX9_either_1 1 rfl rfl ?_
  obtain ⟨b1, hf⟩ := ckO_some hf
  obtain ⟨h2, r3, g4, hf⟩ := bnd_some hf
  refine cR_X9_76 X hω (k_X9_both hω hF hLc hS g4) (sd_of hω b1.1) b1.2 (hR := (by constructor <;> simp only [rm_X9_single, rm_X9_both, rm_X9_either, rmB] <;> omega)) ⟨rfl, rfl⟩ ⟨Nat.zero_le _, Nat.zero_le _⟩ (Nat.le_of_ble_eq_true rfl) dX9_either_2 ?_
  refine x_istore_n X [(2, .int r3), (0, .ref (q o)), (1, .int p0)] dX9_either_5 rfl (Nat.le_of_ble_eq_true rfl) rfl ?_
  refine x_iconst X (v := 0) dX9_either_6 (by decide) ?_
  refine x_istore_n X [(3, .int (0 : Int32)), (2, .int r3), (0, .ref (q o)), (1, .int p0)] dX9_either_7 rfl (Nat.le_of_ble_eq_true rfl) rfl ?_
  refine x_lv [2, 3, 1, 0] rfl ?_
  exact k_X9_either_8 hω X R hF hLc hS _ h2 _ _ _ _ hf
