abbrev rm_X1_tells : Room := { frames := 9, cells := 0, slots := 0, locals := 196 }
def f_X1_tells (h : hp) (o : Nat) (p0 : Int32) (p1 : Nat) : Option (hp × Int32) := (ckO true h p1 1
 (bnd (f_J4_append_cf468 h p1 (40 : Int32)) fun h2 r3 =>
 (ckS h2 o
 (bnd (f_X4_tells h2 o p0 p1) fun h6 r7 =>
 (ckS h6 o
 (bnd (f_DN_sends h6 o (1 : Int32) p1) fun h10 r11 =>
 (some (h10, (r7 + r11)))))))))
set_option maxRecDepth 100000 in
set_option maxHeartbeats 4000000 in
theorem k_X1_tells {ω : XO} (hω : ω.2.2.2.1 = true) {L : List Nat} {q : Nat → Nat} {h h' : hp} {o : Nat} {p0 : Int32} {p1 : Nat} {r : Int32} (hf : f_X1_tells h o p0 p1 = some (h', r)) : XM ω yX1_tells cX1_tells 3 (some .int) rm_X1_tells L q h [.ref (q o), .int p0, .ref (q p1)] (some (.int r)) h' := by
  refine XM_intro [(0, .ref (q o)), (1, .int p0), (2, .ref (q p1))] "SignalBlind$Nurse" (by decide) rfl rfl (Nat.le_of_ble_eq_true rfl) (fun κ X R => ?_)
  unfold f_X1_tells at hf
  refine x_aload_n X dX1_tells_0 2 rfl rfl ?_
  refine x_bipush X (v := 40) dX1_tells_1 (by decide) ?_
  obtain ⟨b1, hf⟩ := ckO_some hf
  obtain ⟨h2, r3, g4, hf⟩ := bnd_some hf
  refine c_X1_7 X hω g4 (sd_of hω b1.1) b1.2 (hR := ⟨Nat.le_of_ble_eq_true rfl, Nat.le_of_ble_eq_true rfl⟩) ⟨Nat.zero_le _, Nat.zero_le _⟩ (Nat.le_of_ble_eq_true rfl) dX1_tells_3 ?_
  refine x_pop X dX1_tells_6 rfl ?_
  refine x_aload_n X dX1_tells_7 0 rfl rfl ?_
  refine x_iload_n X dX1_tells_8 1 rfl rfl ?_
  refine x_aload_n X dX1_tells_9 2 rfl rfl ?_
  obtain ⟨b5, hf⟩ := ckS_some hf
  obtain ⟨h6, r7, g8, hf⟩ := bnd_some hf
  refine c_X1_13 X hω g8 b5 (hR := ⟨Nat.le_of_ble_eq_true rfl, Nat.le_of_ble_eq_true rfl⟩) ⟨Nat.zero_le _, Nat.zero_le _⟩ (Nat.le_of_ble_eq_true rfl) dX1_tells_10 ?_
  refine x_aload_n X dX1_tells_13 0 rfl rfl ?_
  refine x_iconst X (v := 1) dX1_tells_14 (by decide) ?_
  refine x_aload_n X dX1_tells_15 2 rfl rfl ?_
  obtain ⟨b9, hf⟩ := ckS_some hf
  obtain ⟨h10, r11, g12, hf⟩ := bnd_some hf
  refine cd_X1_17 X hω (sd_of hω b9.1) g12 (hR := ⟨Nat.le_of_ble_eq_true rfl, Nat.le_of_ble_eq_true rfl⟩) ⟨Nat.zero_le _, Nat.zero_le _⟩ (Nat.le_of_ble_eq_true rfl) dX1_tells_16 ?_
  refine x_iadd X dX1_tells_19 ?_
  exact x_retSI X R hf dX1_tells_20

abbrev rm_X10_tells : Room := { frames := 9, cells := 0, slots := 0, locals := 196 }
def f_X10_tells (h : hp) (o : Nat) (p0 : Int32) (p1 : Nat) : Option (hp × Int32) := (ckO true h p1 1
 (bnd (f_J4_append_cf468 h p1 (60 : Int32)) fun h2 r3 =>
 (ckO true h2 o 12
 (ckS h2 o
 (bnd (f_X4_tells h2 o (p0 - (hI h2 o 0)) p1) fun h7 r8 =>
 (some (h7, r8)))))))
set_option maxRecDepth 100000 in
set_option maxHeartbeats 4000000 in
theorem k_X10_tells {ω : XO} (hω : ω.2.2.2.1 = true) {L : List Nat} {q : Nat → Nat} {h h' : hp} {o : Nat} {p0 : Int32} {p1 : Nat} {r : Int32} (hf : f_X10_tells h o p0 p1 = some (h', r)) : XM ω yX10_tells cX10_tells 3 (some .int) rm_X10_tells L q h [.ref (q o), .int p0, .ref (q p1)] (some (.int r)) h' := by
  refine XM_intro [(0, .ref (q o)), (1, .int p0), (2, .ref (q p1))] "SignalBlind$Wind" (by decide) rfl rfl (Nat.le_of_ble_eq_true rfl) (fun κ X R => ?_)
  unfold f_X10_tells at hf
  refine x_aload_n X dX10_tells_0 2 rfl rfl ?_
  refine x_bipush X (v := 60) dX10_tells_1 (by decide) ?_
  obtain ⟨b1, hf⟩ := ckO_some hf
  obtain ⟨h2, r3, g4, hf⟩ := bnd_some hf
  refine c_X10_11 X hω g4 (sd_of hω b1.1) b1.2 (hR := ⟨Nat.le_of_ble_eq_true rfl, Nat.le_of_ble_eq_true rfl⟩) ⟨Nat.zero_le _, Nat.zero_le _⟩ (Nat.le_of_ble_eq_true rfl) dX10_tells_3 ?_
  refine x_pop X dX10_tells_6 rfl ?_
  refine x_aload_n X dX10_tells_7 0 rfl rfl ?_
  refine x_iload_n X dX10_tells_8 1 rfl rfl ?_
  refine x_aload_n X dX10_tells_9 0 rfl rfl ?_
  obtain ⟨b5, hf⟩ := ckO_some hf
  refine x_geti X (i := o) fl_X10_17_11 (sd_of hω b5.1) b5.2 rfl dX10_tells_10 ?_
  refine x_isub X dX10_tells_13 ?_
  refine x_aload_n X dX10_tells_14 2 rfl rfl ?_
  obtain ⟨b6, hf⟩ := ckS_some hf
  obtain ⟨h7, r8, g9, hf⟩ := bnd_some hf
  refine c_X10_23 X hω g9 b6 (hR := ⟨Nat.le_of_ble_eq_true rfl, Nat.le_of_ble_eq_true rfl⟩) ⟨Nat.zero_le _, Nat.zero_le _⟩ (Nat.le_of_ble_eq_true rfl) dX10_tells_15 ?_
  exact x_retSI X R hf dX10_tells_18

abbrev rm_D_tells : Room := { frames := 9, cells := 0, slots := 0, locals := 218 }
def f_D_tells (h : hp) (o : Nat) (a : Int32) (t : Nat) : Option (hp × Int32) := if kdOf h o = 2 then f_X4_tells h o a t else if kdOf h o = 3 then f_X1_tells h o a t else if kdOf h o = 6 then f_X4_tells h o a t else if kdOf h o = 7 then f_X4_tells h o a t else if kdOf h o = 9 then f_X4_tells h o a t else if kdOf h o = 10 then f_X1_tells h o a t else if kdOf h o = 12 then f_X10_tells h o a t else none
theorem cd_X11_242 {ω : XO} {rm : Room} {nL : Nat} {κ : XK} {cc : ByteArray} (X : XC ω rm nL κ cc "SignalBlind") (hω : ω.2.2.2.1 = true) {L : List Nat} {q : Nat → Nat} {h h1 : hp} {cells slots pc : Nat} {lv : List (Nat × Value)} {rest : List Value} {o : Nat} {a : Int32} {tr : Nat} {r : Int32} (hso : sd ω.2.2.2.1 o = true) (hf : f_D_tells h o a tr = some (h1, r)) (hR : rm_D_tells.frames + 1 ≤ rm.frames ∧ rm_D_tells.locals ≤ rm.locals) (hcs : cells ≤ rm.cells ∧ slots ≤ rm.slots) (hroom : (rest.map fun v => v.category).sum ≤ 8) (hd : decode cc pc = .ok (.invokevirtual 242, 3)) (kk : XG ω rm nL κ L q h1 cells slots (pc + 3) lv (.int r :: rest)) : XG ω rm nL κ L q h cells slots pc lv (.ref (q tr) :: .int a :: .ref (q o) :: rest) := by
  unfold f_D_tells at hf
  by_cases k2 : kdOf h o = 2
  · replace hf := (if_pos k2).symm.trans hf
    exact x_callU (owner := "SignalBlind$Sender") (x := yX4_tells) X [.int a, .ref (q tr)] rest (k_X4_tells hω hf) (by intro w hw; simp only [List.mem_cons, List.not_mem_nil, or_false] at hw; rcases hw with rfl | rfl | rfl | rfl | rfl <;> first | exact (mT_4 189 rfl rfl) | exact (mT_4 192 rfl rfl) | exact (mT_4 193 rfl rfl) | exact (mT_4 190 rfl rfl) | exact (mT_1 11 rfl rfl)) (mT_4 212 rfl rfl) rfl ⟨by decide, by decide, (by decide : (parseMethodDescriptor yX4_tells.desc).map (fun d => d.parameters.length) = some 2)⟩ ⟨Nat.le_trans (Nat.add_le_add_right (Nat.le_of_ble_eq_true rfl : rm_X4_tells.frames ≤ rm_D_tells.frames) 1) hR.1, Nat.le_trans (Nat.le_of_ble_eq_true rfl : 8 + (3 + 11) + rm_X4_tells.locals ≤ rm_D_tells.locals) hR.2⟩ ⟨rfl, rfl⟩ hcs hso k2 (by decide) rfl rfl hroom hd kk
  replace hf := (if_neg k2).symm.trans hf
  by_cases k3 : kdOf h o = 3
  · replace hf := (if_pos k3).symm.trans hf
    exact x_callO (owner := "SignalBlind$Sender") (x := yX4_tells) X [.int a, .ref (q tr)] rest (k_X1_tells hω hf) (by intro w hw; simp only [List.mem_cons, List.not_mem_nil, or_false] at hw; rcases hw with rfl | rfl | rfl | rfl | rfl | rfl <;> first | exact (mT_4 189 rfl rfl) | exact (mT_4 192 rfl rfl) | exact (mT_4 190 rfl rfl) | exact (mT_4 194 rfl rfl) | exact (mT_4 195 rfl rfl) | exact (mT_1 14 rfl rfl)) (mT_4 196 rfl rfl) (mT_4 212 rfl rfl) ⟨by decide, by decide, (by decide : (parseMethodDescriptor yX4_tells.desc).map (fun d => d.parameters.length) = some 2)⟩ ⟨Nat.le_trans (Nat.add_le_add_right (Nat.le_of_ble_eq_true rfl : rm_X1_tells.frames ≤ rm_D_tells.frames) 1) hR.1, Nat.le_trans (Nat.le_of_ble_eq_true rfl : 8 + (3 + 11) + rm_X1_tells.locals ≤ rm_D_tells.locals) hR.2⟩ ⟨rfl, rfl⟩ hcs hso k3 (by decide) rfl rfl hroom hd kk
  replace hf := (if_neg k3).symm.trans hf
  by_cases k6 : kdOf h o = 6
  · replace hf := (if_pos k6).symm.trans hf
    exact x_callV X [.int a, .ref (q tr)] rest (k_X4_tells hω hf) mt_X4_tells (mT_4 189 rfl rfl) ⟨Nat.le_trans (Nat.add_le_add_right (Nat.le_of_ble_eq_true rfl : rm_X4_tells.frames ≤ rm_D_tells.frames) 1) hR.1, Nat.le_trans (Nat.le_of_ble_eq_true rfl : 8 + (3 + 11) + rm_X4_tells.locals ≤ rm_D_tells.locals) hR.2⟩ ⟨rfl, rfl⟩ hcs hso k6 (by decide) rfl rfl hroom hd kk
  replace hf := (if_neg k6).symm.trans hf
  by_cases k7 : kdOf h o = 7
  · replace hf := (if_pos k7).symm.trans hf
    exact x_callU (owner := "SignalBlind$Sender") (x := yX4_tells) X [.int a, .ref (q tr)] rest (k_X4_tells hω hf) (by intro w hw; simp only [List.mem_cons, List.not_mem_nil, or_false] at hw; rcases hw with rfl | rfl | rfl | rfl | rfl <;> first | exact (mT_4 189 rfl rfl) | exact (mT_4 192 rfl rfl) | exact (mT_4 202 rfl rfl) | exact (mT_4 190 rfl rfl) | exact (mT_1 11 rfl rfl)) (mT_4 212 rfl rfl) rfl ⟨by decide, by decide, (by decide : (parseMethodDescriptor yX4_tells.desc).map (fun d => d.parameters.length) = some 2)⟩ ⟨Nat.le_trans (Nat.add_le_add_right (Nat.le_of_ble_eq_true rfl : rm_X4_tells.frames ≤ rm_D_tells.frames) 1) hR.1, Nat.le_trans (Nat.le_of_ble_eq_true rfl : 8 + (3 + 11) + rm_X4_tells.locals ≤ rm_D_tells.locals) hR.2⟩ ⟨rfl, rfl⟩ hcs hso k7 (by decide) rfl rfl hroom hd kk
  replace hf := (if_neg k7).symm.trans hf
  by_cases k9 : kdOf h o = 9
  · replace hf := (if_pos k9).symm.trans hf
    exact x_callU (owner := "SignalBlind$Sender") (x := yX4_tells) X [.int a, .ref (q tr)] rest (k_X4_tells hω hf) (by intro w hw; simp only [List.mem_cons, List.not_mem_nil, or_false] at hw; rcases hw with rfl | rfl | rfl | rfl | rfl <;> first | exact (mT_4 189 rfl rfl) | exact (mT_4 192 rfl rfl) | exact (mT_4 203 rfl rfl) | exact (mT_4 190 rfl rfl) | exact (mT_1 11 rfl rfl)) (mT_4 212 rfl rfl) rfl ⟨by decide, by decide, (by decide : (parseMethodDescriptor yX4_tells.desc).map (fun d => d.parameters.length) = some 2)⟩ ⟨Nat.le_trans (Nat.add_le_add_right (Nat.le_of_ble_eq_true rfl : rm_X4_tells.frames ≤ rm_D_tells.frames) 1) hR.1, Nat.le_trans (Nat.le_of_ble_eq_true rfl : 8 + (3 + 11) + rm_X4_tells.locals ≤ rm_D_tells.locals) hR.2⟩ ⟨rfl, rfl⟩ hcs hso k9 (by decide) rfl rfl hroom hd kk
  replace hf := (if_neg k9).symm.trans hf
  by_cases k10 : kdOf h o = 10
  · replace hf := (if_pos k10).symm.trans hf
    exact x_callO (owner := "SignalBlind$Sender") (x := yX4_tells) X [.int a, .ref (q tr)] rest (k_X1_tells hω hf) (by intro w hw; simp only [List.mem_cons, List.not_mem_nil, or_false] at hw; rcases hw with rfl | rfl | rfl | rfl | rfl | rfl <;> first | exact (mT_4 189 rfl rfl) | exact (mT_4 192 rfl rfl) | exact (mT_4 190 rfl rfl) | exact (mT_4 204 rfl rfl) | exact (mT_4 195 rfl rfl) | exact (mT_1 14 rfl rfl)) (mT_4 196 rfl rfl) (mT_4 212 rfl rfl) ⟨by decide, by decide, (by decide : (parseMethodDescriptor yX4_tells.desc).map (fun d => d.parameters.length) = some 2)⟩ ⟨Nat.le_trans (Nat.add_le_add_right (Nat.le_of_ble_eq_true rfl : rm_X1_tells.frames ≤ rm_D_tells.frames) 1) hR.1, Nat.le_trans (Nat.le_of_ble_eq_true rfl : 8 + (3 + 11) + rm_X1_tells.locals ≤ rm_D_tells.locals) hR.2⟩ ⟨rfl, rfl⟩ hcs hso k10 (by decide) rfl rfl hroom hd kk
  replace hf := (if_neg k10).symm.trans hf
  by_cases k12 : kdOf h o = 12
  · replace hf := (if_pos k12).symm.trans hf
    exact x_callO (owner := "SignalBlind$Sender") (x := yX4_tells) X [.int a, .ref (q tr)] rest (k_X10_tells hω hf) (by intro w hw; simp only [List.mem_cons, List.not_mem_nil, or_false] at hw; rcases hw with rfl | rfl | rfl | rfl | rfl | rfl <;> first | exact (mT_4 189 rfl rfl) | exact (mT_4 192 rfl rfl) | exact (mT_4 190 rfl rfl) | exact (mT_4 205 rfl rfl) | exact (mT_4 206 rfl rfl) | exact (mT_1 16 rfl rfl)) (mT_4 207 rfl rfl) (mT_4 212 rfl rfl) ⟨by decide, by decide, (by decide : (parseMethodDescriptor yX4_tells.desc).map (fun d => d.parameters.length) = some 2)⟩ ⟨Nat.le_trans (Nat.add_le_add_right (Nat.le_of_ble_eq_true rfl : rm_X10_tells.frames ≤ rm_D_tells.frames) 1) hR.1, Nat.le_trans (Nat.le_of_ble_eq_true rfl : 8 + (3 + 11) + rm_X10_tells.locals ≤ rm_D_tells.locals) hR.2⟩ ⟨rfl, rfl⟩ hcs hso k12 (by decide) rfl rfl hroom hd kk
  replace hf := (if_neg k12).symm.trans hf
  cases hf

abbrev rm_X11_act : Room := { frames := 10, cells := 0, slots := 0, locals := 218 }
def f_X11_act (h : hp) (p0 : Int32) (p1 : Int32) (p2 : Int32) : Option (hp × Int32) := (bnd (f_J4_setLength_d00df h 28 (0 : Int32)) fun h1 _ =>
 (bnr (f_X11_isSender h1 p0) fun r3 =>
 (if r3 = 0 then
 (some (h1, (0 : Int32)))
 else
 (chk p0 5
 (onO (aR h1 4 (p0).toNatClampNeg) none fun i7 =>
 (if p1 = (0 : Int32) then
 (ckS h1 i7
 (bnd (f_D_tilts h1 i7 p2 28) fun h10 r11 =>
 (some (h10, r11))))
 else
 (if p1 = (1 : Int32) then
 (ckS h1 i7
 (bnd (f_D_sends h1 i7 p2 28) fun h15 r16 =>
 (some (h15, r16))))
 else
 (if p1 = (2 : Int32) then
 (ckS h1 i7
 (bnd (f_D_tells h1 i7 p2 28) fun h20 r21 =>
 (some (h20, r21))))
 else
 (some (h1, (0 : Int32)))))))))))
set_option maxRecDepth 100000 in
set_option maxHeartbeats 4000000 in
theorem k_X11_act {ω : XO} (hω : ω.2.2.2.1 = true) {L : List Nat} {q : Nat → Nat} {h h' : hp} {p0 : Int32} {p1 : Int32} {p2 : Int32} {r : Int32} (hf : f_X11_act h p0 p1 p2 = some (h', r)) : XM ω yX11_act cX11_act 5 (some .int) rm_X11_act L q h [.ref (q 0), .int p0, .int p1, .int p2] (some (.int r)) h' := by
  refine XM_intro [(0, .ref (q 0)), (1, .int p0), (2, .int p1), (3, .int p2)] "SignalBlind" (by decide) rfl rfl (Nat.le_of_ble_eq_true rfl) (fun κ X R => ?_)
  unfold f_X11_act at hf
  refine x_aload_n X dX11_act_0 0 rfl rfl ?_
  refine x_getsj X (i := 0) 28 fl_X11_54_12 (sdX_0 hω) (ks_0 _) rfl (j := 28) rfl dX11_act_1 ?_
  refine x_iconst X (v := 0) dX11_act_4 (by decide) ?_
  obtain ⟨h1, uh1, g2, hf⟩ := bnd_some hf
  refine c_X11_232 X hω g2 (sdX_28 hω) (ks_28 _) (hR := ⟨Nat.le_of_ble_eq_true rfl, Nat.le_of_ble_eq_true rfl⟩) ⟨Nat.zero_le _, Nat.zero_le _⟩ (Nat.le_of_ble_eq_true rfl) dX11_act_5 ?_
  refine x_aload_n X dX11_act_8 0 rfl rfl ?_
  refine x_iload_n X dX11_act_9 1 rfl rfl ?_
  obtain ⟨r3, g4, hf⟩ := bnr_some hf
  refine c_X11_112 X hω g4 (hR := ⟨Nat.le_of_ble_eq_true rfl, Nat.le_of_ble_eq_true rfl⟩) ⟨Nat.zero_le _, Nat.zero_le _⟩ (Nat.le_of_ble_eq_true rfl) dX11_act_10 ?_
  refine x_if_ne X 18 dX11_act_13 (by decide) (fun c5 => ?_) (fun c5 => ?_)
  · replace hf := (if_pos c5).symm.trans hf
    refine x_iconst X (v := 0) dX11_act_16 (by decide) ?_
    exact x_retSI X R hf dX11_act_17
  · replace hf := (if_neg c5).symm.trans hf
    refine x_aload_n X dX11_act_18 0 rfl rfl ?_
    refine x_getsj X (i := 0) 1 fl_X11_14_12 (sdX_0 hω) (ks_0 _) rfl (j := 1) rfl dX11_act_19 ?_
    refine x_getsj X (i := 1) 3 fl_X11_115_4 (sdX_1 hω) (ks_1 _) rfl (j := 4) rfl dX11_act_22 ?_
    refine x_iload_n X dX11_act_25 1 rfl rfl ?_
    obtain ⟨z6, hf⟩ := chk_some hf
    refine x_aald X (i := 4) (n := 5) (e := 4) (by decide) (sdX_4 hω) (ks_4 _) z6 dX11_act_26 ?_
    obtain ⟨i7, ei7, hf⟩ := onO_some hf
    refine x_nn ei7 ?_
    refine x_astore X [(4, .ref (q i7)), (0, .ref (q 0)), (1, .int p0), (2, .int p1), (3, .int p2)] dX11_act_27 (Nat.le_of_ble_eq_true rfl) rfl ?_
    refine x_iload_n X dX11_act_29 3 rfl rfl ?_
    by_cases s8 : p1 = (0 : Int32)
    · replace hf := (if_pos s8).symm.trans hf
      refine x_tswI X (off := 26) 56 dX11_act_30 s8 (by decide) (by decide) (by decide) (by decide) ?_
      refine x_aload X dX11_act_56 0 rfl ?_
      refine x_iload_n X dX11_act_58 4 rfl rfl ?_
      refine x_aload_n X dX11_act_59 1 rfl rfl ?_
      refine x_getsj X (i := 0) 28 fl_X11_54_12 (sdX_0 hω) (ks_0 _) rfl (j := 28) rfl dX11_act_60 ?_
      obtain ⟨b9, hf⟩ := ckS_some hf
      obtain ⟨h10, r11, g12, hf⟩ := bnd_some hf
      refine cd_X11_235 X hω (sd_of hω b9.1) g12 (hR := ⟨Nat.le_of_ble_eq_true rfl, Nat.le_of_ble_eq_true rfl⟩) ⟨Nat.zero_le _, Nat.zero_le _⟩ (Nat.le_of_ble_eq_true rfl) dX11_act_63 ?_
      exact x_retSI X R hf dX11_act_66
    · replace hf := (if_neg s8).symm.trans hf
      by_cases s13 : p1 = (1 : Int32)
      · replace hf := (if_pos s13).symm.trans hf
        refine x_tswI X (off := 37) 67 dX11_act_30 s13 (by decide) (by decide) (by decide) (by decide) ?_
        refine x_aload X dX11_act_67 0 rfl ?_
        refine x_iload_n X dX11_act_69 4 rfl rfl ?_
        refine x_aload_n X dX11_act_70 1 rfl rfl ?_
        refine x_getsj X (i := 0) 28 fl_X11_54_12 (sdX_0 hω) (ks_0 _) rfl (j := 28) rfl dX11_act_71 ?_
        obtain ⟨b14, hf⟩ := ckS_some hf
        obtain ⟨h15, r16, g17, hf⟩ := bnd_some hf
        refine cd_X11_239 X hω (sd_of hω b14.1) g17 (hR := ⟨Nat.le_of_ble_eq_true rfl, Nat.le_of_ble_eq_true rfl⟩) ⟨Nat.zero_le _, Nat.zero_le _⟩ (Nat.le_of_ble_eq_true rfl) dX11_act_74 ?_
        exact x_retSI X R hf dX11_act_77
      · replace hf := (if_neg s13).symm.trans hf
        by_cases s18 : p1 = (2 : Int32)
        · replace hf := (if_pos s18).symm.trans hf
          refine x_tswI X (off := 48) 78 dX11_act_30 s18 (by decide) (by decide) (by decide) (by decide) ?_
          refine x_aload X dX11_act_78 0 rfl ?_
          refine x_iload_n X dX11_act_80 4 rfl rfl ?_
          refine x_aload_n X dX11_act_81 1 rfl rfl ?_
          refine x_getsj X (i := 0) 28 fl_X11_54_12 (sdX_0 hω) (ks_0 _) rfl (j := 28) rfl dX11_act_82 ?_
          obtain ⟨b19, hf⟩ := ckS_some hf
          obtain ⟨h20, r21, g22, hf⟩ := bnd_some hf
          refine cd_X11_242 X hω (sd_of hω b19.1) g22 (hR := ⟨Nat.le_of_ble_eq_true rfl, Nat.le_of_ble_eq_true rfl⟩) ⟨Nat.zero_le _, Nat.zero_le _⟩ (Nat.le_of_ble_eq_true rfl) dX11_act_85 ?_
          exact x_retSI X R hf dX11_act_88
        · replace hf := (if_neg s18).symm.trans hf
          refine x_tswO X 89 dX11_act_30 (by have := lv_neT s8 (a := 0) (by decide); have := lv_neT s13 (a := 1) (by decide); have := lv_neT s18 (a := 2) (by decide); omega) (by decide) ?_
          refine x_iconst X (v := 0) dX11_act_89 (by decide) ?_
          exact x_retSI X R hf dX11_act_90
theorem mt_X11_act : MT yX11_act cX11_act 5 (some .int) "SignalBlind" 3 := ⟨(mT_4 47 rfl rfl), (mT_4 48 rfl rfl), (mT_1 1 rfl rfl), (mT_4 49 rfl rfl), by decide⟩
