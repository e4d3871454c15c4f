-- ===== the makers of the start: nothing stands yet but what they make =====
def ckW2 {α : Type} (h : hp) (i : Nat) (a : Option α) : Option α := if sd 2 i = true ∧ kdOf h i ≠ 0 then a else none
theorem ckW2_some {α : Type} {h : hp} {i : Nat} {a : Option α} {r : α} (hh : ckW2 h i a = some r) : (sd 2 i = true ∧ kdOf h i ≠ 0) ∧ a = some r := by
  unfold ckW2 at hh
  by_cases hc : sd 2 i = true ∧ kdOf h i ≠ 0
  · rw [if_pos hc] at hh; exact ⟨hc, hh⟩
  · rw [if_neg hc] at hh; cases hh
def ckV2 {α : Type} (h : hp) (o : Option Nat) (a : Option α) : Option α := match o with
  | none => a
  | some t => if sd 2 t = true ∧ kdOf h t ≠ 0 then a else none
theorem ckV2_some {α : Type} {h : hp} {o : Option Nat} {a : Option α} {r : α} (hh : ckV2 h o a = some r) : (∀ t, o = some t → sd 2 t = true ∧ kdOf h t ≠ 0) ∧ a = some r := by
  cases o with
  | none => exact ⟨fun t ht => (nomatch ht), hh⟩
  | some i =>
    unfold ckV2 at hh
    by_cases hc : sd 2 i = true ∧ kdOf h i ≠ 0
    · exact ⟨fun t ht => by injection ht with e; rw [← e]; exact hc, (if_pos hc).symm.trans hh⟩
    · cases ((if_neg hc).symm.trans hh : none = some r)
theorem lv_of2 {ω : XO} (hω : ω.2.2.2.1 = 2) {h : hp} {o : Option Nat} (hb : ∀ t, o = some t → sd 2 t = true ∧ kdOf h t ≠ 0) : ∀ t, o = some t → sd ω.2.2.2.1 t = true ∧ kdOf h t ≠ 0 := fun t ht => ⟨sd_of hω (hb t ht).1, (hb t ht).2⟩
def ckSl2 {α : Type} (h : hp) (i ci : Nat) (a : Option α) : Option α := if (100 ≤ i ∧ ci < 19 ∧ sd 2 i = true ∧ kdOf h i = 20 + ci) ∧ slOk h i ci = true then a else none
theorem ckSl2_some {α : Type} {h : hp} {i ci : Nat} {a : Option α} {r : α} (hh : ckSl2 h i ci a = some r) : ((100 ≤ i ∧ ci < 19 ∧ sd 2 i = true ∧ kdOf h i = 20 + ci) ∧ slOk h i ci = true) ∧ a = some r := by
  unfold ckSl2 at hh
  by_cases hc : (100 ≤ i ∧ ci < 19 ∧ sd 2 i = true ∧ kdOf h i = 20 + ci) ∧ slOk h i ci = true
  · rw [if_pos hc] at hh; exact ⟨hc, hh⟩
  · rw [if_neg hc] at hh; cases hh
theorem sd_21 {i : Nat} (h : 100 ≤ i) : sd 1 i = true := by
  show (decide (i < 52) || decide (100 ≤ i)) = true
  rw [decide_eq_true h, Bool.or_true]
theorem xg_seal2 {ω : XO} (hω : ω.2.2.2.1 = 2) {rm : Room} {nL : Nat} {κ : XK} {L : List Nat} {q : Nat → Nat} {h h1 : hp} {cells slots pc : Nat} {lv : List (Nat × Value)} {st : List Value} {i ci : Nat} (hb : (100 ≤ i ∧ ci < 19 ∧ sd 2 i = true ∧ kdOf h i = 20 + ci) ∧ slOk h i ci = true) (e : h1 = sK h i (ci + 1)) (kk : XG ω rm nL κ L q h1 cells slots pc lv st) : XG ω rm nL κ L q h cells slots pc lv st := by
  subst e
  obtain ⟨l, D, E, b, ζ⟩ := ω
  obtain ⟨p, e2, s, m, args, below, meth, c, Q, A⟩ := κ
  cases (hω : b = 2)
  intro H locs la hP hX hA hS hl
  have hXL : XL E L q (sK h i (ci + 1)) = XL E L q h := List.map_congr_left (fun j _ => by rw [cellX_sK ⟨hb.1.1, hb.1.2.1, sd_21 hb.1.1, hb.1.2.2.2⟩ hb.2])
  exact kk H locs la (by rw [hXL]; exact hP) (XD_sK hb.1 hb.2 hX) hA hS hl
abbrev rm_X2_init (N : Nat) : Room := { frames := 1, cells := 1, slots := N, locals := 20 }
set_option maxRecDepth 100000 in
def fz_X2_init (h : hp) (o : Nat) (p0 : Int32) : Option (hp × Unit) := (ckO 2 h o (20 + 3)
 (nm (sI h o 1 (0 : Int32)) fun h2 =>
 (ckP p0
 (ckW2 h2 o
 (nm (nid h2) fun i5 =>
 (nm (nwk h2 (40 + 10 * p0.toNatClampNeg + 0)) fun h6 =>
 (ckO 2 h6 o (20 + 3)
 (ckV2 h6 (some i5)
 (nm (sR h6 o 0 (some i5)) fun h10 =>
 (ckSl2 h10 o 3
 (nm (sK h10 o 4) fun h12 =>
 (some (h12, ())))))))))))))
set_option maxRecDepth 100000 in
set_option maxHeartbeats 4000000 in
theorem kz_X2_init {ω : XO} (hω : ω.2.2.2.1 = 2) {L : List Nat} {q : Nat → Nat} {h h' : hp} {o : Nat} {p0 : Int32} {r : Unit} (hf : fz_X2_init h o p0 = some (h', r)) : XMn ω yX2_init cX2_init 2 none (rm_X2_init p0.toNatClampNeg) L q h [.ref (q o), .int p0] (fun _ => none) h' := by
  refine XMn_intro [(0, .ref (q o)), (1, .int p0)] "SignalBlind$Row" (by decide) rfl rfl (Nat.le_of_ble_eq_true rfl) (fun κ X R hini => ?_)
  unfold fz_X2_init at hf
  refine x_aload_n X dX2_init_0 0 rfl rfl ?_
  refine x_oinit X (by intro w hw; simp only [List.mem_cons, List.not_mem_nil, or_false] at hw; rcases hw with rfl | rfl | rfl <;> first | exact (mT_1 46 rfl rfl) | exact (mT_1 33 rfl rfl) | exact (mT_1 34 rfl rfl)) (Nat.le_of_ble_eq_true rfl) ⟨Nat.le_of_ble_eq_true rfl, Nat.le_of_ble_eq_true rfl⟩ dX2_init_1 ?_
  refine x_aload_n X dX2_init_4 0 rfl rfl ?_
  refine x_iconst X (v := 0) dX2_init_5 (by decide) ?_
  obtain ⟨b1, hf⟩ := ckO_some hf
  refine x_putGi X (i := o) fl_X2_7_3 fw_3 (sd_of hω b1.1) b1.2 rfl (Or.inl rfl) rfl rfl dX2_init_6 ?_
  obtain ⟨h2, eh2, hf⟩ := nm_some hf
  refine x_nmh eh2 ?_
  refine x_aload_n X dX2_init_9 0 rfl rfl ?_
  refine x_iload_n X dX2_init_10 1 rfl rfl ?_
  obtain ⟨b3, hf⟩ := ckP_some hf
  obtain ⟨b4, hf⟩ := ckW2_some hf
  obtain ⟨i5, ei5, hf⟩ := nm_some hf
  obtain ⟨h6, eh6, hf⟩ := nm_some hf
  refine x_newaI X (N := p0.toNatClampNeg) (mT_1 57 rfl rfl) b3.1 rfl b3.2 (by constructor <;> first | decide +kernel | (simp only [Nat.zero_add]; exact Nat.le_refl _)) dX2_init_11 ei5 eh6 (fun L7 q7 E7 Q7 => ?_)
  rw [← Q7 o (sd_of hω b4.1) b4.2]
  obtain ⟨b8, hf⟩ := ckO_some hf
  obtain ⟨b9, hf⟩ := ckV2_some hf
  refine x_putGr X (i := o) (o := (some i5)) fl_X2_13_3 fw_3 (sd_of hω b8.1) b8.2 rfl (Or.inr ⟨rfl, hini rfl, rfl⟩) (lv_of2 hω b9) rfl rfl rfl dX2_init_13 ?_
  obtain ⟨h10, eh10, hf⟩ := nm_some hf
  refine x_nmh eh10 ?_
  obtain ⟨b11, hf⟩ := ckSl2_some hf
  obtain ⟨h12, eh12, hf⟩ := nm_some hf
  refine xg_seal2 hω b11 eh12 ?_
  exact x_retNV X R E7 hf (by constructor <;> first | decide +kernel | (simp only [Nat.zero_add]; exact Nat.le_refl _)) dX2_init_16
abbrev rm_X6_init : Room := { frames := 1, cells := 1, slots := 60, locals := 20 }
set_option maxRecDepth 100000 in
def fz_X6_init (h : hp) (o : Nat) : Option (hp × Unit) := (ckW2 h o
 (nm (nid h) fun i2 =>
 (nm (nwk h (40 + 10 * 60 + 3)) fun h3 =>
 (ckO 2 h3 o (20 + 7)
 (ckV2 h3 (some i2)
 (nm (sR h3 o 0 (some i2)) fun h7 =>
 (ckO 2 h7 o (20 + 7)
 (nm (sI h7 o 1 (-1 : Int32)) fun h9 =>
 (ckO 2 h9 o (20 + 7)
 (nm (sI h9 o 2 (0 : Int32)) fun h11 =>
 (ckSl2 h11 o 7
 (nm (sK h11 o 8) fun h13 =>
 (some (h13, ()))))))))))))))
set_option maxRecDepth 100000 in
set_option maxHeartbeats 4000000 in
theorem kz_X6_init {ω : XO} (hω : ω.2.2.2.1 = 2) {L : List Nat} {q : Nat → Nat} {h h' : hp} {o : Nat} {r : Unit} (hf : fz_X6_init h o = some (h', r)) : XMn ω yX6_init cX6_init 1 none rm_X6_init L q h [.ref (q o)] (fun _ => none) h' := by
  refine XMn_intro [(0, .ref (q o))] "SignalBlind$Tape" (by decide) rfl rfl (Nat.le_of_ble_eq_true rfl) (fun κ X R hini => ?_)
  unfold fz_X6_init at hf
  refine x_aload_n X dX6_init_0 0 rfl rfl ?_
  refine x_oinit X (by intro w hw; simp only [List.mem_cons, List.not_mem_nil, or_false] at hw; rcases hw with rfl | rfl | rfl <;> first | exact (mT_1 176 rfl rfl) | exact (mT_1 33 rfl rfl) | exact (mT_1 34 rfl rfl)) (Nat.le_of_ble_eq_true rfl) ⟨Nat.le_of_ble_eq_true rfl, Nat.le_of_ble_eq_true rfl⟩ dX6_init_1 ?_
  refine x_aload_n X dX6_init_4 0 rfl rfl ?_
  refine x_bipush X (v := 60) dX6_init_5 (by decide) ?_
  obtain ⟨b1, hf⟩ := ckW2_some hf
  obtain ⟨i2, ei2, hf⟩ := nm_some hf
  obtain ⟨h3, eh3, hf⟩ := nm_some hf
  refine x_newaJ X (N := 60) (mT_1 189 rfl rfl) (by decide) (by decide +kernel) (by decide) (by constructor <;> first | decide +kernel | (simp only [Nat.zero_add]; exact Nat.le_refl _)) dX6_init_7 ei2 eh3 (fun L4 q4 E4 Q4 => ?_)
  rw [← Q4 o (sd_of hω b1.1) b1.2]
  obtain ⟨b5, hf⟩ := ckO_some hf
  obtain ⟨b6, hf⟩ := ckV2_some hf
  refine x_putGr X (i := o) (o := (some i2)) fl_X6_9_7 fw_7 (sd_of hω b5.1) b5.2 rfl (Or.inr ⟨rfl, hini rfl, rfl⟩) (lv_of2 hω b6) rfl rfl rfl dX6_init_9 ?_
  obtain ⟨h7, eh7, hf⟩ := nm_some hf
  refine x_nmh eh7 ?_
  refine x_aload_n X dX6_init_12 0 rfl rfl ?_
  refine x_iconst X (v := -1) dX6_init_13 (by decide) ?_
  obtain ⟨b8, hf⟩ := ckO_some hf
  refine x_putGi X (i := o) fl_X6_13_7 fw_7 (sd_of hω b8.1) b8.2 rfl (Or.inl rfl) rfl rfl dX6_init_14 ?_
  obtain ⟨h9, eh9, hf⟩ := nm_some hf
  refine x_nmh eh9 ?_
  refine x_aload_n X dX6_init_17 0 rfl rfl ?_
  refine x_iconst X (v := 0) dX6_init_18 (by decide) ?_
  obtain ⟨b10, hf⟩ := ckO_some hf
  refine x_putGi X (i := o) fl_X6_17_7 fw_7 (sd_of hω b10.1) b10.2 rfl (Or.inl rfl) rfl rfl dX6_init_19 ?_
  obtain ⟨h11, eh11, hf⟩ := nm_some hf
  refine x_nmh eh11 ?_
  obtain ⟨b12, hf⟩ := ckSl2_some hf
  obtain ⟨h13, eh13, hf⟩ := nm_some hf
  refine xg_seal2 hω b12 eh13 ?_
  exact x_retNV X R E4 hf (by constructor <;> first | decide +kernel | (simp only [Nat.zero_add]; exact Nat.le_refl _)) dX6_init_22
abbrev rm_X3_init : Room := { frames := 2, cells := 11, slots := 67, locals := 41 }
set_option maxRecDepth 100000 in
def fz_X3_init (h : hp) (o : Nat) : Option (hp × Unit) := (ckW2 h o
 (nm (nid h) fun i2 =>
 (nm (nwk h (20 + 3)) fun h3 =>
 (ckW2 h3 o
 (ckW2 h3 i2
 (bnd (fz_X2_init h3 i2 (8 : Int32)) fun h7 _ =>
 (ckO 2 h7 o (20 + 4)
 (ckV2 h7 (some i2)
 (nm (sR h7 o 0 (some i2)) fun h12 =>
 (ckW2 h12 o
 (nm (nid h12) fun i14 =>
 (nm (nwk h12 (40 + 10 * 5 + 4)) fun h15 =>
 (ckO 2 h15 o (20 + 4)
 (ckV2 h15 (some i14)
 (nm (sR h15 o 1 (some i14)) fun h19 =>
 (ckO 2 h19 o (20 + 4)
 (nm (sI h19 o 2 (0 : Int32)) fun h21 =>
 (ckW2 h21 o
 (nm (nid h21) fun i23 =>
 (nm (nwk h21 (40 + 10 * 5 + 0)) fun h24 =>
 (ckO 2 h24 o (20 + 4)
 (ckV2 h24 (some i23)
 (nm (sR h24 o 3 (some i23)) fun h28 =>
 (ckW2 h28 o
 (nm (nid h28) fun i30 =>
 (nm (nwk h28 (40 + 10 * 20 + 0)) fun h31 =>
 (ckO 2 h31 o (20 + 4)
 (ckV2 h31 (some i30)
 (nm (sR h31 o 4 (some i30)) fun h35 =>
 (ckO 2 h35 o (20 + 4)
 (nm (sI h35 o 5 (0 : Int32)) fun h37 =>
 (ckW2 h37 o
 (nm (nid h37) fun i39 =>
 (nm (nwk h37 (20 + 3)) fun h40 =>
 (ckW2 h40 o
 (ckW2 h40 i39
 (bnd (fz_X2_init h40 i39 (5 : Int32)) fun h44 _ =>
 (ckO 2 h44 o (20 + 4)
 (ckV2 h44 (some i39)
 (nm (sR h44 o 6 (some i39)) fun h49 =>
 (ckW2 h49 o
 (nm (nid h49) fun i51 =>
 (nm (nwk h49 (20 + 3)) fun h52 =>
 (ckW2 h52 o
 (ckW2 h52 i51
 (bnd (fz_X2_init h52 i51 (8 : Int32)) fun h56 _ =>
 (ckO 2 h56 o (20 + 4)
 (ckV2 h56 (some i51)
 (nm (sR h56 o 7 (some i51)) fun h61 =>
 (ckW2 h61 o
 (nm (nid h61) fun i63 =>
 (nm (nwk h61 (20 + 3)) fun h64 =>
 (ckW2 h64 o
 (ckW2 h64 i63
 (bnd (fz_X2_init h64 i63 (8 : Int32)) fun h68 _ =>
 (ckO 2 h68 o (20 + 4)
 (ckV2 h68 (some i63)
 (nm (sR h68 o 8 (some i63)) fun h73 =>
 (ckO 2 h73 o (20 + 4)
 (ckV2 h73 none
 (nm (sR h73 o 9 none) fun h76 =>
 (ckSl2 h76 o 4
 (nm (sK h76 o 5) fun h78 =>
 (some (h78, ())))))))))))))))))))))))))))))))))))))))))))))))))))))))))))))))))
set_option maxRecDepth 100000 in
set_option maxHeartbeats 4000000 in
theorem kz_X3_init {ω : XO} (hω : ω.2.2.2.1 = 2) {L : List Nat} {q : Nat → Nat} {h h' : hp} {o : Nat} {r : Unit} (hf : fz_X3_init h o = some (h', r)) : XMn ω yX3_init cX3_init 1 none rm_X3_init L q h [.ref (q o)] (fun _ => none) h' := by
  refine XMn_intro [(0, .ref (q o))] "SignalBlind$Scene" (by decide) rfl rfl (Nat.le_of_ble_eq_true rfl) (fun κ X R hini => ?_)
  unfold fz_X3_init at hf
  refine x_aload_n X dX3_init_0 0 rfl rfl ?_
  refine x_oinit X (by intro w hw; simp only [List.mem_cons, List.not_mem_nil, or_false] at hw; rcases hw with rfl | rfl | rfl <;> first | exact (mT_1 40 rfl rfl) | exact (mT_1 33 rfl rfl) | exact (mT_1 34 rfl rfl)) (Nat.le_of_ble_eq_true rfl) ⟨Nat.le_of_ble_eq_true rfl, Nat.le_of_ble_eq_true rfl⟩ dX3_init_1 ?_
  refine x_aload_n X dX3_init_4 0 rfl rfl ?_
  obtain ⟨b1, hf⟩ := ckW2_some hf
  obtain ⟨i2, ei2, hf⟩ := nm_some hf
  obtain ⟨h3, eh3, hf⟩ := nm_some hf
  refine xg_new X (ci := 3) (k := (20 + 3)) (C := RX2) (T := TX2) (N := 2) (by decide) rfl fw_3 inA_3 (by intro w hw; simp only [List.mem_cons, List.not_mem_nil, or_false] at hw; rcases hw with rfl | rfl | rfl <;> first | exact (mT_1 41 rfl rfl) | exact (mT_1 42 rfl rfl) | exact (mT_1 3 rfl rfl)) (Or.inl rfl) (by decide +kernel) (by constructor <;> first | decide +kernel | (simp only [Nat.zero_add]; exact Nat.le_refl _)) dX3_init_5 ei2 eh3 (fun L4 q4 E4 Q4 => ?_)
  rw [← Q4 o (sd_of hω b1.1) b1.2]
  refine x_dup X dX3_init_8 rfl ?_
  refine x_bipush X (v := 8) dX3_init_9 (by decide) ?_
  obtain ⟨b5, hf⟩ := ckW2_some hf
  obtain ⟨b6, hf⟩ := ckW2_some hf
  obtain ⟨h7, uh7, g8, hf⟩ := bnd_some hf
  refine x_callI X [.int (8 : Int32)] [.ref (q4 i2), .ref (q4 o)] (kz_X2_init hω g8) (by intro w hw; simp only [List.mem_cons, List.not_mem_nil, or_false] at hw; rcases hw with rfl | rfl | rfl <;> first | exact (mT_1 43 rfl rfl) | exact (mT_1 44 rfl rfl) | exact (mT_1 3 rfl rfl)) (mT_1 45 rfl rfl) rfl ⟨by decide, by decide, (by decide : (parseMethodDescriptor yX2_init.desc).map (fun d => d.parameters.length) = some 1)⟩ ⟨Nat.le_of_ble_eq_true rfl, Nat.le_of_ble_eq_true rfl⟩ (by constructor <;> first | decide +kernel | (simp only [Nat.zero_add]; exact Nat.le_refl _)) rfl (Nat.le_of_ble_eq_true rfl) dX3_init_11 (fun L9 q9 E9 Q9 => ?_)
  rw [← Q9 o (sd_of hω b5.1) b5.2]
  rw [← Q9 i2 (sd_of hω b6.1) b6.2]
  obtain ⟨b10, hf⟩ := ckO_some hf
  obtain ⟨b11, hf⟩ := ckV2_some hf
  refine x_putGr X (i := o) (o := (some i2)) fl_X3_14_4 fw_4 (sd_of hω b10.1) b10.2 rfl (Or.inr ⟨rfl, hini rfl, rfl⟩) (lv_of2 hω b11) rfl rfl rfl dX3_init_14 ?_
  obtain ⟨h12, eh12, hf⟩ := nm_some hf
  refine x_nmh eh12 ?_
  refine x_aload_n X dX3_init_17 0 rfl rfl ?_
  refine x_iconst X (v := 5) dX3_init_18 (by decide) ?_
  obtain ⟨b13, hf⟩ := ckW2_some hf
  obtain ⟨i14, ei14, hf⟩ := nm_some hf
  obtain ⟨h15, eh15, hf⟩ := nm_some hf
  refine x_newq X (N := 5) (e := 4) (C := "SignalBlind$Sender") (Or.inl ⟨rfl, rfl⟩) (mT_1 58 rfl rfl) (by decide) (by decide +kernel) (by decide) (by constructor <;> first | decide +kernel | (simp only [Nat.zero_add]; exact Nat.le_refl _)) dX3_init_19 ei14 eh15 (fun L16 q16 E16 Q16 => ?_)
  rw [← Q16 o (sd_of hω b13.1) b13.2]
  obtain ⟨b17, hf⟩ := ckO_some hf
  obtain ⟨b18, hf⟩ := ckV2_some hf
  refine x_putGr X (i := o) (o := (some i14)) fl_X3_22_4 fw_4 (sd_of hω b17.1) b17.2 rfl (Or.inr ⟨rfl, hini rfl, rfl⟩) (lv_of2 hω b18) rfl rfl rfl dX3_init_22 ?_
  obtain ⟨h19, eh19, hf⟩ := nm_some hf
  refine x_nmh eh19 ?_
  refine x_aload_n X dX3_init_25 0 rfl rfl ?_
  refine x_iconst X (v := 0) dX3_init_26 (by decide) ?_
  obtain ⟨b20, hf⟩ := ckO_some hf
  refine x_putGi X (i := o) fl_X3_26_4 fw_4 (sd_of hω b20.1) b20.2 rfl (Or.inl rfl) rfl rfl dX3_init_27 ?_
  obtain ⟨h21, eh21, hf⟩ := nm_some hf
  refine x_nmh eh21 ?_
  refine x_aload_n X dX3_init_30 0 rfl rfl ?_
  refine x_iconst X (v := 5) dX3_init_31 (by decide) ?_
  obtain ⟨b22, hf⟩ := ckW2_some hf
  obtain ⟨i23, ei23, hf⟩ := nm_some hf
  obtain ⟨h24, eh24, hf⟩ := nm_some hf
  refine x_newaI X (N := 5) (mT_1 57 rfl rfl) (by decide) (by decide +kernel) (by decide) (by constructor <;> first | decide +kernel | (simp only [Nat.zero_add]; exact Nat.le_refl _)) dX3_init_32 ei23 eh24 (fun L25 q25 E25 Q25 => ?_)
  rw [← Q25 o (sd_of hω b22.1) b22.2]
  obtain ⟨b26, hf⟩ := ckO_some hf
  obtain ⟨b27, hf⟩ := ckV2_some hf
  refine x_putGr X (i := o) (o := (some i23)) fl_X3_30_4 fw_4 (sd_of hω b26.1) b26.2 rfl (Or.inr ⟨rfl, hini rfl, rfl⟩) (lv_of2 hω b27) rfl rfl rfl dX3_init_34 ?_
  obtain ⟨h28, eh28, hf⟩ := nm_some hf
  refine x_nmh eh28 ?_
  refine x_aload_n X dX3_init_37 0 rfl rfl ?_
  refine x_bipush X (v := 20) dX3_init_38 (by decide) ?_
  obtain ⟨b29, hf⟩ := ckW2_some hf
  obtain ⟨i30, ei30, hf⟩ := nm_some hf
  obtain ⟨h31, eh31, hf⟩ := nm_some hf
  refine x_newaI X (N := 20) (mT_1 57 rfl rfl) (by decide) (by decide +kernel) (by decide) (by constructor <;> first | decide +kernel | (simp only [Nat.zero_add]; exact Nat.le_refl _)) dX3_init_40 ei30 eh31 (fun L32 q32 E32 Q32 => ?_)
  rw [← Q32 o (sd_of hω b29.1) b29.2]
  obtain ⟨b33, hf⟩ := ckO_some hf
  obtain ⟨b34, hf⟩ := ckV2_some hf
  refine x_putGr X (i := o) (o := (some i30)) fl_X3_34_4 fw_4 (sd_of hω b33.1) b33.2 rfl (Or.inr ⟨rfl, hini rfl, rfl⟩) (lv_of2 hω b34) rfl rfl rfl dX3_init_42 ?_
  obtain ⟨h35, eh35, hf⟩ := nm_some hf
  refine x_nmh eh35 ?_
  refine x_aload_n X dX3_init_45 0 rfl rfl ?_
  refine x_iconst X (v := 0) dX3_init_46 (by decide) ?_
  obtain ⟨b36, hf⟩ := ckO_some hf
  refine x_putGi X (i := o) fl_X3_37_4 fw_4 (sd_of hω b36.1) b36.2 rfl (Or.inl rfl) rfl rfl dX3_init_47 ?_
  obtain ⟨h37, eh37, hf⟩ := nm_some hf
  refine x_nmh eh37 ?_
  refine x_aload_n X dX3_init_50 0 rfl rfl ?_
  obtain ⟨b38, hf⟩ := ckW2_some hf
  obtain ⟨i39, ei39, hf⟩ := nm_some hf
  obtain ⟨h40, eh40, hf⟩ := nm_some hf
  refine xg_new X (ci := 3) (k := (20 + 3)) (C := RX2) (T := TX2) (N := 2) (by decide) rfl fw_3 inA_3 (by intro w hw; simp only [List.mem_cons, List.not_mem_nil, or_false] at hw; rcases hw with rfl | rfl | rfl <;> first | exact (mT_1 41 rfl rfl) | exact (mT_1 42 rfl rfl) | exact (mT_1 3 rfl rfl)) (Or.inl rfl) (by decide +kernel) (by constructor <;> first | decide +kernel | (simp only [Nat.zero_add]; exact Nat.le_refl _)) dX3_init_51 ei39 eh40 (fun L41 q41 E41 Q41 => ?_)
  rw [← Q41 o (sd_of hω b38.1) b38.2]
  refine x_dup X dX3_init_54 rfl ?_
  refine x_iconst X (v := 5) dX3_init_55 (by decide) ?_
  obtain ⟨b42, hf⟩ := ckW2_some hf
  obtain ⟨b43, hf⟩ := ckW2_some hf
  obtain ⟨h44, uh44, g45, hf⟩ := bnd_some hf
  refine x_callI X [.int (5 : Int32)] [.ref (q41 i39), .ref (q41 o)] (kz_X2_init hω g45) (by intro w hw; simp only [List.mem_cons, List.not_mem_nil, or_false] at hw; rcases hw with rfl | rfl | rfl <;> first | exact (mT_1 43 rfl rfl) | exact (mT_1 44 rfl rfl) | exact (mT_1 3 rfl rfl)) (mT_1 45 rfl rfl) rfl ⟨by decide, by decide, (by decide : (parseMethodDescriptor yX2_init.desc).map (fun d => d.parameters.length) = some 1)⟩ ⟨Nat.le_of_ble_eq_true rfl, Nat.le_of_ble_eq_true rfl⟩ (by constructor <;> first | decide +kernel | (simp only [Nat.zero_add]; exact Nat.le_refl _)) rfl (Nat.le_of_ble_eq_true rfl) dX3_init_56 (fun L46 q46 E46 Q46 => ?_)
  rw [← Q46 o (sd_of hω b42.1) b42.2]
  rw [← Q46 i39 (sd_of hω b43.1) b43.2]
  obtain ⟨b47, hf⟩ := ckO_some hf
  obtain ⟨b48, hf⟩ := ckV2_some hf
  refine x_putGr X (i := o) (o := (some i39)) fl_X3_40_4 fw_4 (sd_of hω b47.1) b47.2 rfl (Or.inr ⟨rfl, hini rfl, rfl⟩) (lv_of2 hω b48) rfl rfl rfl dX3_init_59 ?_
  obtain ⟨h49, eh49, hf⟩ := nm_some hf
  refine x_nmh eh49 ?_
  refine x_aload_n X dX3_init_62 0 rfl rfl ?_
  obtain ⟨b50, hf⟩ := ckW2_some hf
  obtain ⟨i51, ei51, hf⟩ := nm_some hf
  obtain ⟨h52, eh52, hf⟩ := nm_some hf
  refine xg_new X (ci := 3) (k := (20 + 3)) (C := RX2) (T := TX2) (N := 2) (by decide) rfl fw_3 inA_3 (by intro w hw; simp only [List.mem_cons, List.not_mem_nil, or_false] at hw; rcases hw with rfl | rfl | rfl <;> first | exact (mT_1 41 rfl rfl) | exact (mT_1 42 rfl rfl) | exact (mT_1 3 rfl rfl)) (Or.inl rfl) (by decide +kernel) (by constructor <;> first | decide +kernel | (simp only [Nat.zero_add]; exact Nat.le_refl _)) dX3_init_63 ei51 eh52 (fun L53 q53 E53 Q53 => ?_)
  rw [← Q53 o (sd_of hω b50.1) b50.2]
  refine x_dup X dX3_init_66 rfl ?_
  refine x_bipush X (v := 8) dX3_init_67 (by decide) ?_
  obtain ⟨b54, hf⟩ := ckW2_some hf
  obtain ⟨b55, hf⟩ := ckW2_some hf
  obtain ⟨h56, uh56, g57, hf⟩ := bnd_some hf
  refine x_callI X [.int (8 : Int32)] [.ref (q53 i51), .ref (q53 o)] (kz_X2_init hω g57) (by intro w hw; simp only [List.mem_cons, List.not_mem_nil, or_false] at hw; rcases hw with rfl | rfl | rfl <;> first | exact (mT_1 43 rfl rfl) | exact (mT_1 44 rfl rfl) | exact (mT_1 3 rfl rfl)) (mT_1 45 rfl rfl) rfl ⟨by decide, by decide, (by decide : (parseMethodDescriptor yX2_init.desc).map (fun d => d.parameters.length) = some 1)⟩ ⟨Nat.le_of_ble_eq_true rfl, Nat.le_of_ble_eq_true rfl⟩ (by constructor <;> first | decide +kernel | (simp only [Nat.zero_add]; exact Nat.le_refl _)) rfl (Nat.le_of_ble_eq_true rfl) dX3_init_69 (fun L58 q58 E58 Q58 => ?_)
  rw [← Q58 o (sd_of hω b54.1) b54.2]
  rw [← Q58 i51 (sd_of hω b55.1) b55.2]
  obtain ⟨b59, hf⟩ := ckO_some hf
  obtain ⟨b60, hf⟩ := ckV2_some hf
  refine x_putGr X (i := o) (o := (some i51)) fl_X3_43_4 fw_4 (sd_of hω b59.1) b59.2 rfl (Or.inr ⟨rfl, hini rfl, rfl⟩) (lv_of2 hω b60) rfl rfl rfl dX3_init_72 ?_
  obtain ⟨h61, eh61, hf⟩ := nm_some hf
  refine x_nmh eh61 ?_
  refine x_aload_n X dX3_init_75 0 rfl rfl ?_
  obtain ⟨b62, hf⟩ := ckW2_some hf
  obtain ⟨i63, ei63, hf⟩ := nm_some hf
  obtain ⟨h64, eh64, hf⟩ := nm_some hf
  refine xg_new X (ci := 3) (k := (20 + 3)) (C := RX2) (T := TX2) (N := 2) (by decide) rfl fw_3 inA_3 (by intro w hw; simp only [List.mem_cons, List.not_mem_nil, or_false] at hw; rcases hw with rfl | rfl | rfl <;> first | exact (mT_1 41 rfl rfl) | exact (mT_1 42 rfl rfl) | exact (mT_1 3 rfl rfl)) (Or.inl rfl) (by decide +kernel) (by constructor <;> first | decide +kernel | (simp only [Nat.zero_add]; exact Nat.le_refl _)) dX3_init_76 ei63 eh64 (fun L65 q65 E65 Q65 => ?_)
  rw [← Q65 o (sd_of hω b62.1) b62.2]
  refine x_dup X dX3_init_79 rfl ?_
  refine x_bipush X (v := 8) dX3_init_80 (by decide) ?_
  obtain ⟨b66, hf⟩ := ckW2_some hf
  obtain ⟨b67, hf⟩ := ckW2_some hf
  obtain ⟨h68, uh68, g69, hf⟩ := bnd_some hf
  refine x_callI X [.int (8 : Int32)] [.ref (q65 i63), .ref (q65 o)] (kz_X2_init hω g69) (by intro w hw; simp only [List.mem_cons, List.not_mem_nil, or_false] at hw; rcases hw with rfl | rfl | rfl <;> first | exact (mT_1 43 rfl rfl) | exact (mT_1 44 rfl rfl) | exact (mT_1 3 rfl rfl)) (mT_1 45 rfl rfl) rfl ⟨by decide, by decide, (by decide : (parseMethodDescriptor yX2_init.desc).map (fun d => d.parameters.length) = some 1)⟩ ⟨Nat.le_of_ble_eq_true rfl, Nat.le_of_ble_eq_true rfl⟩ (by constructor <;> first | decide +kernel | (simp only [Nat.zero_add]; exact Nat.le_refl _)) rfl (Nat.le_of_ble_eq_true rfl) dX3_init_82 (fun L70 q70 E70 Q70 => ?_)
  rw [← Q70 o (sd_of hω b66.1) b66.2]
  rw [← Q70 i63 (sd_of hω b67.1) b67.2]
  obtain ⟨b71, hf⟩ := ckO_some hf
  obtain ⟨b72, hf⟩ := ckV2_some hf
  refine x_putGr X (i := o) (o := (some i63)) fl_X3_46_4 fw_4 (sd_of hω b71.1) b71.2 rfl (Or.inr ⟨rfl, hini rfl, rfl⟩) (lv_of2 hω b72) rfl rfl rfl dX3_init_85 ?_
  obtain ⟨h73, eh73, hf⟩ := nm_some hf
  refine x_nmh eh73 ?_
  refine x_aload_n X dX3_init_88 0 rfl rfl ?_
  refine x_null X dX3_init_89 ?_
  obtain ⟨b74, hf⟩ := ckO_some hf
  obtain ⟨b75, hf⟩ := ckV2_some hf
  refine x_putGr X (i := o) (o := none) fl_X3_49_4 fw_4 (sd_of hω b74.1) b74.2 rfl (Or.inl rfl) (lv_of2 hω b75) rfl rfl rfl dX3_init_90 ?_
  obtain ⟨h76, eh76, hf⟩ := nm_some hf
  refine x_nmh eh76 ?_
  obtain ⟨b77, hf⟩ := ckSl2_some hf
  obtain ⟨h78, eh78, hf⟩ := nm_some hf
  refine xg_seal2 hω b77 eh78 ?_
  exact x_retNV X R ((((((((((E4.tr E9).tr E16).tr E25).tr E32).tr E41).tr E46).tr E53).tr E58).tr E65).tr E70) hf (by constructor <;> first | decide +kernel | (simp only [Nat.zero_add]; exact Nat.le_refl _)) dX3_init_93
set_option maxRecDepth 100000 in
def fz_X9_init (h : hp) (o : Nat) : Option (hp × Unit) := (ckW2 h o
 (nm (nid h) fun i2 =>
 (nm (nwk h (40 + 10 * 10 + 0)) fun h3 =>
 (ckO 2 h3 o (20 + 10)
 (ckV2 h3 (some i2)
 (nm (sR h3 o 0 (some i2)) fun h7 =>
 (ckW2 h7 o
 (nm (nid h7) fun i9 =>
 (nm (nwk h7 (40 + 10 * 10 + 0)) fun h10 =>
 (ckO 2 h10 o (20 + 10)
 (ckV2 h10 (some i9)
 (nm (sR h10 o 1 (some i9)) fun h14 =>
 (ckW2 h14 o
 (nm (nid h14) fun i16 =>
 (nm (nwk h14 (40 + 10 * 10 + 0)) fun h17 =>
 (ckO 2 h17 o (20 + 10)
 (ckV2 h17 (some i16)
 (nm (sR h17 o 2 (some i16)) fun h21 =>
 (ckO 2 h21 o (20 + 10)
 (nm (sI h21 o 3 (0 : Int32)) fun h23 =>
 (ckW2 h23 o
 (nm (nid h23) fun i25 =>
 (nm (nwk h23 (40 + 10 * 100 + 0)) fun h26 =>
 (ckO 2 h26 o (20 + 10)
 (ckV2 h26 (some i25)
 (nm (sR h26 o 4 (some i25)) fun h30 =>
 (ckO 2 h30 o (20 + 10)
 (nm (sI h30 o 5 (0 : Int32)) fun h32 =>
 (ckO 2 h32 o (20 + 10)
 (nm (sI h32 o 6 (2 : Int32)) fun h34 =>
 (ckO 2 h34 o (20 + 10)
 (ckV2 h34 none
 (nm (sR h34 o 7 none) fun h37 =>
 (ckO 2 h37 o (20 + 10)
 (nm (sI h37 o 8 (0 : Int32)) fun h39 =>
 (ckSl2 h39 o 10
 (nm (sK h39 o 11) fun h41 =>
 (some (h41, ())))))))))))))))))))))))))))))))))))))))
set_option maxRecDepth 100000 in
set_option maxHeartbeats 4000000 in
theorem kz_X9_init {ω : XO} (hω : ω.2.2.2.1 = 2) {L : List Nat} {q : Nat → Nat} {h h' : hp} {o : Nat} {r : Unit} (hf : fz_X9_init h o = some (h', r)) : XMn ω yX9_init cX9_init 1 none rm_X9_init L q h [.ref (q o)] (fun _ => none) h' := by
  refine XMn_intro [(0, .ref (q o))] "SignalBlind$Ward" (by decide) rfl rfl (Nat.le_of_ble_eq_true rfl) (fun κ X R hini => ?_)
  unfold fz_X9_init at hf
  refine x_aload_n X dX9_init_0 0 rfl rfl ?_
  refine x_oinit X (by intro w hw; simp only [List.mem_cons, List.not_mem_nil, or_false] at hw; rcases hw with rfl | rfl | rfl <;> first | exact (mT_1 108 rfl rfl) | exact (mT_1 33 rfl rfl) | exact (mT_1 34 rfl rfl)) (Nat.le_of_ble_eq_true rfl) ⟨Nat.le_of_ble_eq_true rfl, Nat.le_of_ble_eq_true rfl⟩ dX9_init_1 ?_
  refine x_aload_n X dX9_init_4 0 rfl rfl ?_
  refine x_bipush X (v := 10) dX9_init_5 (by decide) ?_
  obtain ⟨b1, hf⟩ := ckW2_some hf
  obtain ⟨i2, ei2, hf⟩ := nm_some hf
  obtain ⟨h3, eh3, hf⟩ := nm_some hf
  refine x_newaI X (N := 10) (mT_1 57 rfl rfl) (by decide) (by decide +kernel) (by decide) (by constructor <;> first | decide +kernel | (simp only [Nat.zero_add]; exact Nat.le_refl _)) dX9_init_7 ei2 eh3 (fun L4 q4 E4 Q4 => ?_)
  rw [← Q4 o (sd_of hω b1.1) b1.2]
  obtain ⟨b5, hf⟩ := ckO_some hf
  obtain ⟨b6, hf⟩ := ckV2_some hf
  refine x_putGr X (i := o) (o := (some i2)) fl_X9_11_10 fw_10 (sd_of hω b5.1) b5.2 rfl (Or.inr ⟨rfl, hini rfl, rfl⟩) (lv_of2 hω b6) rfl rfl rfl dX9_init_9 ?_
  obtain ⟨h7, eh7, hf⟩ := nm_some hf
  refine x_nmh eh7 ?_
  refine x_aload_n X dX9_init_12 0 rfl rfl ?_
  refine x_bipush X (v := 10) dX9_init_13 (by decide) ?_
  obtain ⟨b8, hf⟩ := ckW2_some hf
  obtain ⟨i9, ei9, hf⟩ := nm_some hf
  obtain ⟨h10, eh10, hf⟩ := nm_some hf
  refine x_newaI X (N := 10) (mT_1 57 rfl rfl) (by decide) (by decide +kernel) (by decide) (by constructor <;> first | decide +kernel | (simp only [Nat.zero_add]; exact Nat.le_refl _)) dX9_init_15 ei9 eh10 (fun L11 q11 E11 Q11 => ?_)
  rw [← Q11 o (sd_of hω b8.1) b8.2]
  obtain ⟨b12, hf⟩ := ckO_some hf
  obtain ⟨b13, hf⟩ := ckV2_some hf
  refine x_putGr X (i := o) (o := (some i9)) fl_X9_15_10 fw_10 (sd_of hω b12.1) b12.2 rfl (Or.inr ⟨rfl, hini rfl, rfl⟩) (lv_of2 hω b13) rfl rfl rfl dX9_init_17 ?_
  obtain ⟨h14, eh14, hf⟩ := nm_some hf
  refine x_nmh eh14 ?_
  refine x_aload_n X dX9_init_20 0 rfl rfl ?_
  refine x_bipush X (v := 10) dX9_init_21 (by decide) ?_
  obtain ⟨b15, hf⟩ := ckW2_some hf
  obtain ⟨i16, ei16, hf⟩ := nm_some hf
  obtain ⟨h17, eh17, hf⟩ := nm_some hf
  refine x_newaI X (N := 10) (mT_1 57 rfl rfl) (by decide) (by decide +kernel) (by decide) (by constructor <;> first | decide +kernel | (simp only [Nat.zero_add]; exact Nat.le_refl _)) dX9_init_23 ei16 eh17 (fun L18 q18 E18 Q18 => ?_)
  rw [← Q18 o (sd_of hω b15.1) b15.2]
  obtain ⟨b19, hf⟩ := ckO_some hf
  obtain ⟨b20, hf⟩ := ckV2_some hf
  refine x_putGr X (i := o) (o := (some i16)) fl_X9_18_10 fw_10 (sd_of hω b19.1) b19.2 rfl (Or.inr ⟨rfl, hini rfl, rfl⟩) (lv_of2 hω b20) rfl rfl rfl dX9_init_25 ?_
  obtain ⟨h21, eh21, hf⟩ := nm_some hf
  refine x_nmh eh21 ?_
  refine x_aload_n X dX9_init_28 0 rfl rfl ?_
  refine x_iconst X (v := 0) dX9_init_29 (by decide) ?_
  obtain ⟨b22, hf⟩ := ckO_some hf
  refine x_putGi X (i := o) fl_X9_21_10 fw_10 (sd_of hω b22.1) b22.2 rfl (Or.inl rfl) rfl rfl dX9_init_30 ?_
  obtain ⟨h23, eh23, hf⟩ := nm_some hf
  refine x_nmh eh23 ?_
  refine x_aload_n X dX9_init_33 0 rfl rfl ?_
  refine x_bipush X (v := 100) dX9_init_34 (by decide) ?_
  obtain ⟨b24, hf⟩ := ckW2_some hf
  obtain ⟨i25, ei25, hf⟩ := nm_some hf
  obtain ⟨h26, eh26, hf⟩ := nm_some hf
  refine x_newaI X (N := 100) (mT_1 57 rfl rfl) (by decide) (by decide +kernel) (by decide) (by constructor <;> first | decide +kernel | (simp only [Nat.zero_add]; exact Nat.le_refl _)) dX9_init_36 ei25 eh26 (fun L27 q27 E27 Q27 => ?_)
  rw [← Q27 o (sd_of hω b24.1) b24.2]
  obtain ⟨b28, hf⟩ := ckO_some hf
  obtain ⟨b29, hf⟩ := ckV2_some hf
  refine x_putGr X (i := o) (o := (some i25)) fl_X9_25_10 fw_10 (sd_of hω b28.1) b28.2 rfl (Or.inr ⟨rfl, hini rfl, rfl⟩) (lv_of2 hω b29) rfl rfl rfl dX9_init_38 ?_
  obtain ⟨h30, eh30, hf⟩ := nm_some hf
  refine x_nmh eh30 ?_
  refine x_aload_n X dX9_init_41 0 rfl rfl ?_
  refine x_iconst X (v := 0) dX9_init_42 (by decide) ?_
  obtain ⟨b31, hf⟩ := ckO_some hf
  refine x_putGi X (i := o) fl_X9_28_10 fw_10 (sd_of hω b31.1) b31.2 rfl (Or.inl rfl) rfl rfl dX9_init_43 ?_
  obtain ⟨h32, eh32, hf⟩ := nm_some hf
  refine x_nmh eh32 ?_
  refine x_aload_n X dX9_init_46 0 rfl rfl ?_
  refine x_iconst X (v := 2) dX9_init_47 (by decide) ?_
  obtain ⟨b33, hf⟩ := ckO_some hf
  refine x_putGi X (i := o) fl_X9_31_10 fw_10 (sd_of hω b33.1) b33.2 rfl (Or.inl rfl) rfl rfl dX9_init_48 ?_
  obtain ⟨h34, eh34, hf⟩ := nm_some hf
  refine x_nmh eh34 ?_
  refine x_aload_n X dX9_init_51 0 rfl rfl ?_
  refine x_null X dX9_init_52 ?_
  obtain ⟨b35, hf⟩ := ckO_some hf
  obtain ⟨b36, hf⟩ := ckV2_some hf
  refine x_putGr X (i := o) (o := none) fl_X9_34_10 fw_10 (sd_of hω b35.1) b35.2 rfl (Or.inl rfl) (lv_of2 hω b36) rfl rfl rfl dX9_init_53 ?_
  obtain ⟨h37, eh37, hf⟩ := nm_some hf
  refine x_nmh eh37 ?_
  refine x_aload_n X dX9_init_56 0 rfl rfl ?_
  refine x_iconst X (v := 0) dX9_init_57 (by decide) ?_
  obtain ⟨b38, hf⟩ := ckO_some hf
  refine x_putGi X (i := o) fl_X9_38_10 fw_10 (sd_of hω b38.1) b38.2 rfl (Or.inl rfl) rfl rfl dX9_init_58 ?_
  obtain ⟨h39, eh39, hf⟩ := nm_some hf
  refine x_nmh eh39 ?_
  obtain ⟨b40, hf⟩ := ckSl2_some hf
  obtain ⟨h41, eh41, hf⟩ := nm_some hf
  refine xg_seal2 hω b40 eh41 ?_
  exact x_retNV X R (((E4.tr E11).tr E18).tr E27) hf (by constructor <;> first | decide +kernel | (simp only [Nat.zero_add]; exact Nat.le_refl _)) dX9_init_61
abbrev rm_J5_init_d00df (N : Nat) : Room := { frames := 1, cells := 1, slots := N, locals := 20 }
set_option maxRecDepth 100000 in
def fz_J5_init_d00df (h : hp) (o : Nat) (p0 : Int32) : Option (hp × Unit) := (ckP p0
 (ckW2 h o
 (nm (nid h) fun i4 =>
 (nm (nwk h (40 + 10 * p0.toNatClampNeg + 1)) fun h5 =>
 (ckO 2 h5 o (20 + 0)
 (ckV2 h5 (some i4)
 (nm (sR h5 o 0 (some i4)) fun h9 =>
 (ckO 2 h9 o (20 + 0)
 (nm (sI h9 o 1 (0 : Int32)) fun h11 =>
 (some (h11, ())))))))))))
set_option maxRecDepth 100000 in
set_option maxHeartbeats 4000000 in
theorem kz_J5_init_d00df {ω : XO} (hω : ω.2.2.2.1 = 2) {L : List Nat} {q : Nat → Nat} {h h' : hp} {o : Nat} {p0 : Int32} {r : Unit} (hf : fz_J5_init_d00df h o p0 = some (h', r)) : XMn ω yJ5_init_d00df cJ5_init_d00df 2 none (rm_J5_init_d00df p0.toNatClampNeg) L q h [.ref (q o), .int p0] (fun _ => none) h' := by
  refine XMn_intro [(0, .ref (q o)), (1, .int p0)] "java/lang/AbstractStringBuilder" (by decide) rfl rfl (Nat.le_of_ble_eq_true rfl) (fun κ X R hini => ?_)
  unfold fz_J5_init_d00df at hf
  refine x_aload_n X dJ5_init_d00df_0 0 rfl rfl ?_
  refine x_oinit X (by intro w hw; simp only [List.mem_cons, List.not_mem_nil, or_false] at hw; rcases hw with rfl | rfl | rfl <;> first | exact (mT_1 148 rfl rfl) | exact (mT_1 33 rfl rfl) | exact (mT_1 34 rfl rfl)) (Nat.le_of_ble_eq_true rfl) ⟨Nat.le_of_ble_eq_true rfl, Nat.le_of_ble_eq_true rfl⟩ dJ5_init_d00df_1 ?_
  refine x_stat_J5_18 X dJ5_init_d00df_4 ?_
  refine x_if_eq X 25 dJ5_init_d00df_7 (by decide) (fun c1 => ?_) (fun c1 => ?_)
  · exact absurd c1 (by decide)
  · refine x_aload_n X dJ5_init_d00df_10 0 rfl rfl ?_
    refine x_iload_n X dJ5_init_d00df_11 1 rfl rfl ?_
    obtain ⟨b2, hf⟩ := ckP_some hf
    obtain ⟨b3, hf⟩ := ckW2_some hf
    obtain ⟨i4, ei4, hf⟩ := nm_some hf
    obtain ⟨h5, eh5, hf⟩ := nm_some hf
    refine x_newaB X (N := p0.toNatClampNeg) (mT_1 171 rfl rfl) b2.1 rfl b2.2 (by constructor <;> first | decide +kernel | (simp only [Nat.zero_add]; exact Nat.le_refl _)) dJ5_init_d00df_12 ei4 eh5 (fun L6 q6 E6 Q6 => ?_)
    rw [← Q6 o (sd_of hω b3.1) b3.2]
    obtain ⟨b7, hf⟩ := ckO_some hf
    obtain ⟨b8, hf⟩ := ckV2_some hf
    refine x_putGr X (i := o) (o := (some i4)) fl_J5_15_0 fw_0 (sd_of hω b7.1) b7.2 rfl (Or.inl rfl) (lv_of2 hω b8) rfl rfl rfl dJ5_init_d00df_14 ?_
    obtain ⟨h9, eh9, hf⟩ := nm_some hf
    refine x_nmh eh9 ?_
    refine x_aload_n X dJ5_init_d00df_17 0 rfl rfl ?_
    refine x_iconst X (v := 0) dJ5_init_d00df_18 (by decide) ?_
    obtain ⟨b10, hf⟩ := ckO_some hf
    refine x_putGi X (i := o) fl_J5_22_0 fw_0 (sd_of hω b10.1) b10.2 rfl (Or.inl rfl) rfl rfl dJ5_init_d00df_19 ?_
    obtain ⟨h11, eh11, hf⟩ := nm_some hf
    refine x_nmh eh11 ?_
    refine x_goto X 38 dJ5_init_d00df_22 (by decide) ?_
    exact x_retNV X R E6 hf (by constructor <;> first | decide +kernel | (simp only [Nat.zero_add]; exact Nat.le_refl _)) dJ5_init_d00df_38
abbrev rm_J4_init_da8c8 : Room := { frames := 2, cells := 1, slots := 16, locals := 41 }
set_option maxRecDepth 100000 in
def fz_J4_init_da8c8 (h : hp) (o : Nat) : Option (hp × Unit) := (ckW2 h o
 (bnd (fz_J5_init_d00df h o (16 : Int32)) fun h2 _ =>
 (ckSl2 h2 o 0
 (nm (sK h2 o 1) fun h6 =>
 (some (h6, ()))))))
set_option maxRecDepth 100000 in
set_option maxHeartbeats 4000000 in
theorem kz_J4_init_da8c8 {ω : XO} (hω : ω.2.2.2.1 = 2) {L : List Nat} {q : Nat → Nat} {h h' : hp} {o : Nat} {r : Unit} (hf : fz_J4_init_da8c8 h o = some (h', r)) : XMn ω yJ4_init_da8c8 cJ4_init_da8c8 1 none rm_J4_init_da8c8 L q h [.ref (q o)] (fun _ => none) h' := by
  refine XMn_intro [(0, .ref (q o))] "java/lang/StringBuilder" (by decide) rfl rfl (Nat.le_of_ble_eq_true rfl) (fun κ X R hini => ?_)
  unfold fz_J4_init_da8c8 at hf
  refine x_aload_n X dJ4_init_da8c8_0 0 rfl rfl ?_
  refine x_bipush X (v := 16) dJ4_init_da8c8_1 (by decide) ?_
  obtain ⟨b1, hf⟩ := ckW2_some hf
  obtain ⟨h2, uh2, g3, hf⟩ := bnd_some hf
  refine x_callI X [.int (16 : Int32)] [] (kz_J5_init_d00df hω g3) (by intro w hw; simp only [List.mem_cons, List.not_mem_nil, or_false] at hw; rcases hw with rfl | rfl | rfl <;> first | exact (mT_1 145 rfl rfl) | exact (mT_1 146 rfl rfl) | exact (mT_1 5 rfl rfl)) (mT_1 147 rfl rfl) rfl ⟨by decide, by decide, (by decide : (parseMethodDescriptor yJ5_init_d00df.desc).map (fun d => d.parameters.length) = some 1)⟩ ⟨Nat.le_of_ble_eq_true rfl, Nat.le_of_ble_eq_true rfl⟩ (by constructor <;> first | decide +kernel | (simp only [Nat.zero_add]; exact Nat.le_refl _)) rfl (Nat.le_of_ble_eq_true rfl) dJ4_init_da8c8_3 (fun L4 q4 E4 Q4 => ?_)
  rw [← Q4 o (sd_of hω b1.1) b1.2]
  obtain ⟨b5, hf⟩ := ckSl2_some hf
  obtain ⟨h6, eh6, hf⟩ := nm_some hf
  refine xg_seal2 hω b5 eh6 ?_
  exact x_retNV X R E4 hf (by constructor <;> first | decide +kernel | (simp only [Nat.zero_add]; exact Nat.le_refl _)) dJ4_init_da8c8_6
abbrev rm_X11_init : Room := { frames := 3, cells := 50, slots := 831, locals := 61 }
set_option maxRecDepth 100000 in
def fz_X11_init (h : hp) (o : Nat) : Option (hp × Unit) := (ckW2 h o
 (nm (nid h) fun i2 =>
 (nm (nwk h (20 + 4)) fun h3 =>
 (ckW2 h3 o
 (ckW2 h3 i2
 (bnd (fz_X3_init h3 i2) fun h7 _ =>
 (ckO 2 h7 o (20 + 12)
 (ckV2 h7 (some i2)
 (nm (sR h7 o 0 (some i2)) fun h12 =>
 (ckW2 h12 o
 (nm (nid h12) fun i14 =>
 (nm (nwk h12 (20 + 4)) fun h15 =>
 (ckW2 h15 o
 (ckW2 h15 i14
 (bnd (fz_X3_init h15 i14) fun h19 _ =>
 (ckO 2 h19 o (20 + 12)
 (ckV2 h19 (some i14)
 (nm (sR h19 o 1 (some i14)) fun h24 =>
 (ckO 2 h24 o (20 + 12)
 (nm (sI h24 o 2 (0 : Int32)) fun h26 =>
 (ckW2 h26 o
 (nm (nid h26) fun i28 =>
 (nm (nwk h26 (20 + 3)) fun h29 =>
 (ckW2 h29 o
 (ckW2 h29 i28
 (bnd (fz_X2_init h29 i28 (100 : Int32)) fun h33 _ =>
 (ckO 2 h33 o (20 + 12)
 (ckV2 h33 (some i28)
 (nm (sR h33 o 3 (some i28)) fun h38 =>
 (ckW2 h38 o
 (nm (nid h38) fun i40 =>
 (nm (nwk h38 (20 + 10)) fun h41 =>
 (ckW2 h41 o
 (ckW2 h41 i40
 (bnd (fz_X9_init h41 i40) fun h45 _ =>
 (ckO 2 h45 o (20 + 12)
 (ckV2 h45 (some i40)
 (nm (sR h45 o 4 (some i40)) fun h50 =>
 (ckO 2 h50 o (20 + 12)
 (nm (sI h50 o 5 (0 : Int32)) fun h52 =>
 (ckW2 h52 o
 (nm (nid h52) fun i54 =>
 (nm (nwk h52 (40 + 10 * 6 + 5)) fun h55 =>
 (ckO 2 h55 o (20 + 12)
 (ckV2 h55 (some i54)
 (nm (sR h55 o 6 (some i54)) fun h59 =>
 (ckW2 h59 o
 (nm (nid h59) fun i61 =>
 (nm (nwk h59 (20 + 0)) fun h62 =>
 (ckW2 h62 o
 (ckW2 h62 i61
 (bnd (fz_J4_init_da8c8 h62 i61) fun h66 _ =>
 (ckO 2 h66 o (20 + 12)
 (ckV2 h66 (some i61)
 (nm (sR h66 o 7 (some i61)) fun h71 =>
 (ckW2 h71 o
 (nm (nid h71) fun i73 =>
 (nm (nwk h71 (40 + 10 * 6 + 0)) fun h74 =>
 (ckO 2 h74 o (20 + 12)
 (ckV2 h74 (some i73)
 (nm (sR h74 o 8 (some i73)) fun h78 =>
 (ckW2 h78 o
 (nm (nid h78) fun i80 =>
 (nm (nwk h78 (40 + 10 * 16 + 3)) fun h81 =>
 (ckO 2 h81 o (20 + 12)
 (ckV2 h81 (some i80)
 (nm (sR h81 o 9 (some i80)) fun h85 =>
 (ckW2 h85 o
 (nm (nid h85) fun i87 =>
 (nm (nwk h85 (40 + 10 * 5 + 0)) fun h88 =>
 (ckO 2 h88 o (20 + 12)
 (ckV2 h88 (some i87)
 (nm (sR h88 o 10 (some i87)) fun h92 =>
 (ckW2 h92 o
 (nm (nid h92) fun i94 =>
 (nm (nwk h92 (40 + 10 * 5 + 0)) fun h95 =>
 (ckO 2 h95 o (20 + 12)
 (ckV2 h95 (some i94)
 (nm (sR h95 o 11 (some i94)) fun h99 =>
 (ckO 2 h99 o (20 + 12)
 (onO (hR h99 o 6) none fun i102 =>
 (ckW2 h99 o
 (ckW2 h99 i102
 (nm (nid h99) fun i105 =>
 (nm (nwk h99 (20 + 7)) fun h106 =>
 (ckW2 h106 o
 (ckW2 h106 i105
 (ckW2 h106 i102
 (bnd (fz_X6_init h106 i105) fun h111 _ =>
 (ckA 2 h111 i102 5
 (chk (0 : Int32) (alen h111 i102)
 (ckO 2 h111 i105 8
 (nm (tR h111 i102 ((0 : Int32)).toNatClampNeg (some i105)) fun h117 =>
 (ckO 2 h117 o (20 + 12)
 (onO (hR h117 o 6) none fun i120 =>
 (ckW2 h117 o
 (ckW2 h117 i120
 (nm (nid h117) fun i123 =>
 (nm (nwk h117 (20 + 7)) fun h124 =>
 (ckW2 h124 o
 (ckW2 h124 i123
 (ckW2 h124 i120
 (bnd (fz_X6_init h124 i123) fun h129 _ =>
 (ckA 2 h129 i120 5
 (chk (1 : Int32) (alen h129 i120)
 (ckO 2 h129 i123 8
 (nm (tR h129 i120 ((1 : Int32)).toNatClampNeg (some i123)) fun h135 =>
 (ckO 2 h135 o (20 + 12)
 (onO (hR h135 o 6) none fun i138 =>
 (ckW2 h135 o
 (ckW2 h135 i138
 (nm (nid h135) fun i141 =>
 (nm (nwk h135 (20 + 7)) fun h142 =>
 (ckW2 h142 o
 (ckW2 h142 i141
 (ckW2 h142 i138
 (bnd (fz_X6_init h142 i141) fun h147 _ =>
 (ckA 2 h147 i138 5
 (chk (2 : Int32) (alen h147 i138)
 (ckO 2 h147 i141 8
 (nm (tR h147 i138 ((2 : Int32)).toNatClampNeg (some i141)) fun h153 =>
 (ckO 2 h153 o (20 + 12)
 (onO (hR h153 o 6) none fun i156 =>
 (ckW2 h153 o
 (ckW2 h153 i156
 (nm (nid h153) fun i159 =>
 (nm (nwk h153 (20 + 7)) fun h160 =>
 (ckW2 h160 o
 (ckW2 h160 i159
 (ckW2 h160 i156
 (bnd (fz_X6_init h160 i159) fun h165 _ =>
 (ckA 2 h165 i156 5
 (chk (3 : Int32) (alen h165 i156)
 (ckO 2 h165 i159 8
 (nm (tR h165 i156 ((3 : Int32)).toNatClampNeg (some i159)) fun h171 =>
 (ckO 2 h171 o (20 + 12)
 (onO (hR h171 o 6) none fun i174 =>
 (ckW2 h171 o
 (ckW2 h171 i174
 (nm (nid h171) fun i177 =>
 (nm (nwk h171 (20 + 7)) fun h178 =>
 (ckW2 h178 o
 (ckW2 h178 i177
 (ckW2 h178 i174
 (bnd (fz_X6_init h178 i177) fun h183 _ =>
 (ckA 2 h183 i174 5
 (chk (4 : Int32) (alen h183 i174)
 (ckO 2 h183 i177 8
 (nm (tR h183 i174 ((4 : Int32)).toNatClampNeg (some i177)) fun h189 =>
 (ckO 2 h189 o (20 + 12)
 (onO (hR h189 o 6) none fun i192 =>
 (ckW2 h189 o
 (ckW2 h189 i192
 (nm (nid h189) fun i195 =>
 (nm (nwk h189 (20 + 7)) fun h196 =>
 (ckW2 h196 o
 (ckW2 h196 i195
 (ckW2 h196 i192
 (bnd (fz_X6_init h196 i195) fun h201 _ =>
 (ckA 2 h201 i192 5
 (chk (5 : Int32) (alen h201 i192)
 (ckO 2 h201 i195 8
 (nm (tR h201 i192 ((5 : Int32)).toNatClampNeg (some i195)) fun h207 =>
 (ckSl2 h207 o 12
 (nm (sK h207 o 13) fun h210 =>
 (some (h210, ())))))))))))))))))))))))))))))))))))))))))))))))))))))))))))))))))))))))))))))))))))))))))))))))))))))))))))))))))))))))))))))))))))))))))))))))))))))))))))))))))))))))
set_option maxRecDepth 100000 in
set_option maxHeartbeats 4000000 in
theorem kz_X11_init {ω : XO} (hω : ω.2.2.2.1 = 2) {L : List Nat} {q : Nat → Nat} {h h' : hp} {o : Nat} {r : Unit} (hf : fz_X11_init h o = some (h', r)) : XMn ω yX11_init cX11_init 2 none rm_X11_init L q h [.ref (q o)] (fun _ => none) h' := by
  refine XMn_intro [(0, .ref (q o))] "SignalBlind" (by decide) rfl rfl (Nat.le_of_ble_eq_true rfl) (fun κ X R hini => ?_)
  unfold fz_X11_init at hf
  refine x_aload_n X dX11_init_0 0 rfl rfl ?_
  refine x_oinit X (by intro w hw; simp only [List.mem_cons, List.not_mem_nil, or_false] at hw; rcases hw with rfl | rfl | rfl <;> first | exact (mT_1 32 rfl rfl) | exact (mT_1 33 rfl rfl) | exact (mT_1 34 rfl rfl)) (Nat.le_of_ble_eq_true rfl) ⟨Nat.le_of_ble_eq_true rfl, Nat.le_of_ble_eq_true rfl⟩ dX11_init_1 ?_
  refine x_aload_n X dX11_init_4 0 rfl rfl ?_
  obtain ⟨b1, hf⟩ := ckW2_some hf
  obtain ⟨i2, ei2, hf⟩ := nm_some hf
  obtain ⟨h3, eh3, hf⟩ := nm_some hf
  refine xg_new X (ci := 4) (k := (20 + 4)) (C := RX3) (T := TX3) (N := 10) (by decide) rfl fw_4 inA_4 (by intro w hw; simp only [List.mem_cons, List.not_mem_nil, or_false] at hw; rcases hw with rfl | rfl | rfl <;> first | exact (mT_1 35 rfl rfl) | exact (mT_1 36 rfl rfl) | exact (mT_1 2 rfl rfl)) (Or.inl rfl) (by decide +kernel) (by constructor <;> first | decide +kernel | (simp only [Nat.zero_add]; exact Nat.le_refl _)) dX11_init_5 ei2 eh3 (fun L4 q4 E4 Q4 => ?_)
  rw [← Q4 o (sd_of hω b1.1) b1.2]
  refine x_dup X dX11_init_8 rfl ?_
  obtain ⟨b5, hf⟩ := ckW2_some hf
  obtain ⟨b6, hf⟩ := ckW2_some hf
  obtain ⟨h7, uh7, g8, hf⟩ := bnd_some hf
  refine x_callIN X [] [.ref (q4 i2), .ref (q4 o)] (kz_X3_init hω g8) (host := "SignalBlind") (by simp [nwM]) (by intro w hw; simp only [List.mem_cons, List.not_mem_nil, or_false] at hw; rcases hw with rfl | rfl <;> first | exact (mT_1 38 rfl rfl) | exact (mT_1 2 rfl rfl)) (mT_1 39 rfl rfl) rfl ⟨by decide, by decide, (by decide : (parseMethodDescriptor yX3_init.desc).map (fun d => d.parameters.length) = some 0)⟩ ⟨Nat.le_of_ble_eq_true rfl, Nat.le_of_ble_eq_true rfl⟩ (by constructor <;> first | decide +kernel | (simp only [Nat.zero_add]; exact Nat.le_refl _)) rfl (Nat.le_of_ble_eq_true rfl) dX11_init_9 (fun L9 q9 E9 Q9 => ?_)
  rw [← Q9 o (sd_of hω b5.1) b5.2]
  rw [← Q9 i2 (sd_of hω b6.1) b6.2]
  obtain ⟨b10, hf⟩ := ckO_some hf
  obtain ⟨b11, hf⟩ := ckV2_some hf
  refine x_putGr X (i := o) (o := (some i2)) fl_X11_14_12 fw_12 (sd_of hω b10.1) b10.2 rfl (Or.inr ⟨rfl, hini rfl, rfl⟩) (lv_of2 hω b11) rfl rfl rfl dX11_init_12 ?_
  obtain ⟨h12, eh12, hf⟩ := nm_some hf
  refine x_nmh eh12 ?_
  refine x_aload_n X dX11_init_15 0 rfl rfl ?_
  obtain ⟨b13, hf⟩ := ckW2_some hf
  obtain ⟨i14, ei14, hf⟩ := nm_some hf
  obtain ⟨h15, eh15, hf⟩ := nm_some hf
  refine xg_new X (ci := 4) (k := (20 + 4)) (C := RX3) (T := TX3) (N := 10) (by decide) rfl fw_4 inA_4 (by intro w hw; simp only [List.mem_cons, List.not_mem_nil, or_false] at hw; rcases hw with rfl | rfl | rfl <;> first | exact (mT_1 35 rfl rfl) | exact (mT_1 36 rfl rfl) | exact (mT_1 2 rfl rfl)) (Or.inl rfl) (by decide +kernel) (by constructor <;> first | decide +kernel | (simp only [Nat.zero_add]; exact Nat.le_refl _)) dX11_init_16 ei14 eh15 (fun L16 q16 E16 Q16 => ?_)
  rw [← Q16 o (sd_of hω b13.1) b13.2]
  refine x_dup X dX11_init_19 rfl ?_
  obtain ⟨b17, hf⟩ := ckW2_some hf
  obtain ⟨b18, hf⟩ := ckW2_some hf
  obtain ⟨h19, uh19, g20, hf⟩ := bnd_some hf
  refine x_callIN X [] [.ref (q16 i14), .ref (q16 o)] (kz_X3_init hω g20) (host := "SignalBlind") (by simp [nwM]) (by intro w hw; simp only [List.mem_cons, List.not_mem_nil, or_false] at hw; rcases hw with rfl | rfl <;> first | exact (mT_1 38 rfl rfl) | exact (mT_1 2 rfl rfl)) (mT_1 39 rfl rfl) rfl ⟨by decide, by decide, (by decide : (parseMethodDescriptor yX3_init.desc).map (fun d => d.parameters.length) = some 0)⟩ ⟨Nat.le_of_ble_eq_true rfl, Nat.le_of_ble_eq_true rfl⟩ (by constructor <;> first | decide +kernel | (simp only [Nat.zero_add]; exact Nat.le_refl _)) rfl (Nat.le_of_ble_eq_true rfl) dX11_init_20 (fun L21 q21 E21 Q21 => ?_)
  rw [← Q21 o (sd_of hω b17.1) b17.2]
  rw [← Q21 i14 (sd_of hω b18.1) b18.2]
  obtain ⟨b22, hf⟩ := ckO_some hf
  obtain ⟨b23, hf⟩ := ckV2_some hf
  refine x_putGr X (i := o) (o := (some i14)) fl_X11_18_12 fw_12 (sd_of hω b22.1) b22.2 rfl (Or.inr ⟨rfl, hini rfl, rfl⟩) (lv_of2 hω b23) rfl rfl rfl dX11_init_23 ?_
  obtain ⟨h24, eh24, hf⟩ := nm_some hf
  refine x_nmh eh24 ?_
  refine x_aload_n X dX11_init_26 0 rfl rfl ?_
  refine x_iconst X (v := 0) dX11_init_27 (by decide) ?_
  obtain ⟨b25, hf⟩ := ckO_some hf
  refine x_putGi X (i := o) fl_X11_21_12 fw_12 (sd_of hω b25.1) b25.2 rfl (Or.inl rfl) rfl rfl dX11_init_28 ?_
  obtain ⟨h26, eh26, hf⟩ := nm_some hf
  refine x_nmh eh26 ?_
  refine x_aload_n X dX11_init_31 0 rfl rfl ?_
  obtain ⟨b27, hf⟩ := ckW2_some hf
  obtain ⟨i28, ei28, hf⟩ := nm_some hf
  obtain ⟨h29, eh29, hf⟩ := nm_some hf
  refine xg_new X (ci := 3) (k := (20 + 3)) (C := RX2) (T := TX2) (N := 2) (by decide) rfl fw_3 inA_3 (by intro w hw; simp only [List.mem_cons, List.not_mem_nil, or_false] at hw; rcases hw with rfl | rfl | rfl <;> first | exact (mT_1 101 rfl rfl) | exact (mT_1 42 rfl rfl) | exact (mT_1 3 rfl rfl)) (Or.inl rfl) (by decide +kernel) (by constructor <;> first | decide +kernel | (simp only [Nat.zero_add]; exact Nat.le_refl _)) dX11_init_32 ei28 eh29 (fun L30 q30 E30 Q30 => ?_)
  rw [← Q30 o (sd_of hω b27.1) b27.2]
  refine x_dup X dX11_init_35 rfl ?_
  refine x_bipush X (v := 100) dX11_init_36 (by decide) ?_
  obtain ⟨b31, hf⟩ := ckW2_some hf
  obtain ⟨b32, hf⟩ := ckW2_some hf
  obtain ⟨h33, uh33, g34, hf⟩ := bnd_some hf
  refine x_callI X [.int (100 : Int32)] [.ref (q30 i28), .ref (q30 o)] (kz_X2_init hω g34) (by intro w hw; simp only [List.mem_cons, List.not_mem_nil, or_false] at hw; rcases hw with rfl | rfl | rfl <;> first | exact (mT_1 102 rfl rfl) | exact (mT_1 44 rfl rfl) | exact (mT_1 3 rfl rfl)) (mT_1 45 rfl rfl) rfl ⟨by decide, by decide, (by decide : (parseMethodDescriptor yX2_init.desc).map (fun d => d.parameters.length) = some 1)⟩ ⟨Nat.le_of_ble_eq_true rfl, Nat.le_of_ble_eq_true rfl⟩ (by constructor <;> first | decide +kernel | (simp only [Nat.zero_add]; exact Nat.le_refl _)) rfl (Nat.le_of_ble_eq_true rfl) dX11_init_38 (fun L35 q35 E35 Q35 => ?_)
  rw [← Q35 o (sd_of hω b31.1) b31.2]
  rw [← Q35 i28 (sd_of hω b32.1) b32.2]
  obtain ⟨b36, hf⟩ := ckO_some hf
  obtain ⟨b37, hf⟩ := ckV2_some hf
  refine x_putGr X (i := o) (o := (some i28)) fl_X11_32_12 fw_12 (sd_of hω b36.1) b36.2 rfl (Or.inr ⟨rfl, hini rfl, rfl⟩) (lv_of2 hω b37) rfl rfl rfl dX11_init_41 ?_
  obtain ⟨h38, eh38, hf⟩ := nm_some hf
  refine x_nmh eh38 ?_
  refine x_aload_n X dX11_init_44 0 rfl rfl ?_
  obtain ⟨b39, hf⟩ := ckW2_some hf
  obtain ⟨i40, ei40, hf⟩ := nm_some hf
  obtain ⟨h41, eh41, hf⟩ := nm_some hf
  refine xg_new X (ci := 10) (k := (20 + 10)) (C := RX9) (T := TX9) (N := 9) (by decide) rfl fw_10 inA_10 (by intro w hw; simp only [List.mem_cons, List.not_mem_nil, or_false] at hw; rcases hw with rfl | rfl | rfl <;> first | exact (mT_1 103 rfl rfl) | exact (mT_1 104 rfl rfl) | exact (mT_1 4 rfl rfl)) (Or.inl rfl) (by decide +kernel) (by constructor <;> first | decide +kernel | (simp only [Nat.zero_add]; exact Nat.le_refl _)) dX11_init_45 ei40 eh41 (fun L42 q42 E42 Q42 => ?_)
  rw [← Q42 o (sd_of hω b39.1) b39.2]
  refine x_dup X dX11_init_48 rfl ?_
  obtain ⟨b43, hf⟩ := ckW2_some hf
  obtain ⟨b44, hf⟩ := ckW2_some hf
  obtain ⟨h45, uh45, g46, hf⟩ := bnd_some hf
  refine x_callIN X [] [.ref (q42 i40), .ref (q42 o)] (kz_X9_init hω g46) (host := "SignalBlind") (by simp [nwM]) (by intro w hw; simp only [List.mem_cons, List.not_mem_nil, or_false] at hw; rcases hw with rfl | rfl <;> first | exact (mT_1 106 rfl rfl) | exact (mT_1 4 rfl rfl)) (mT_1 107 rfl rfl) rfl ⟨by decide, by decide, (by decide : (parseMethodDescriptor yX9_init.desc).map (fun d => d.parameters.length) = some 0)⟩ ⟨Nat.le_of_ble_eq_true rfl, Nat.le_of_ble_eq_true rfl⟩ (by constructor <;> first | decide +kernel | (simp only [Nat.zero_add]; exact Nat.le_refl _)) rfl (Nat.le_of_ble_eq_true rfl) dX11_init_49 (fun L47 q47 E47 Q47 => ?_)
  rw [← Q47 o (sd_of hω b43.1) b43.2]
  rw [← Q47 i40 (sd_of hω b44.1) b44.2]
  obtain ⟨b48, hf⟩ := ckO_some hf
  obtain ⟨b49, hf⟩ := ckV2_some hf
  refine x_putGr X (i := o) (o := (some i40)) fl_X11_37_12 fw_12 (sd_of hω b48.1) b48.2 rfl (Or.inl rfl) (lv_of2 hω b49) rfl rfl rfl dX11_init_52 ?_
  obtain ⟨h50, eh50, hf⟩ := nm_some hf
  refine x_nmh eh50 ?_
  refine x_aload_n X dX11_init_55 0 rfl rfl ?_
  refine x_iconst X (v := 0) dX11_init_56 (by decide) ?_
  obtain ⟨b51, hf⟩ := ckO_some hf
  refine x_putGi X (i := o) fl_X11_41_12 fw_12 (sd_of hω b51.1) b51.2 rfl (Or.inl rfl) rfl rfl dX11_init_57 ?_
  obtain ⟨h52, eh52, hf⟩ := nm_some hf
  refine x_nmh eh52 ?_
  refine x_aload_n X dX11_init_60 0 rfl rfl ?_
  refine x_bipush X (v := 6) dX11_init_61 (by decide) ?_
  obtain ⟨b53, hf⟩ := ckW2_some hf
  obtain ⟨i54, ei54, hf⟩ := nm_some hf
  obtain ⟨h55, eh55, hf⟩ := nm_some hf
  refine x_newq X (N := 6) (e := 5) (C := "SignalBlind$Tape") (Or.inr ⟨rfl, rfl⟩) (mT_1 138 rfl rfl) (by decide) (by decide +kernel) (by decide) (by constructor <;> first | decide +kernel | (simp only [Nat.zero_add]; exact Nat.le_refl _)) dX11_init_63 ei54 eh55 (fun L56 q56 E56 Q56 => ?_)
  rw [← Q56 o (sd_of hω b53.1) b53.2]
  obtain ⟨b57, hf⟩ := ckO_some hf
  obtain ⟨b58, hf⟩ := ckV2_some hf
  refine x_putGr X (i := o) (o := (some i54)) fl_X11_47_12 fw_12 (sd_of hω b57.1) b57.2 rfl (Or.inr ⟨rfl, hini rfl, rfl⟩) (lv_of2 hω b58) rfl rfl rfl dX11_init_66 ?_
  obtain ⟨h59, eh59, hf⟩ := nm_some hf
  refine x_nmh eh59 ?_
  refine x_aload_n X dX11_init_69 0 rfl rfl ?_
  obtain ⟨b60, hf⟩ := ckW2_some hf
  obtain ⟨i61, ei61, hf⟩ := nm_some hf
  obtain ⟨h62, eh62, hf⟩ := nm_some hf
  refine xg_new X (ci := 0) (k := (20 + 0)) (C := RJ4) (T := TJ4) (N := 4) (by decide) rfl fw_0 inA_0 (by intro w hw; simp only [List.mem_cons, List.not_mem_nil, or_false] at hw; rcases hw with rfl | rfl | rfl <;> first | exact (mT_1 140 rfl rfl) | exact (mT_1 141 rfl rfl) | exact (mT_1 6 rfl rfl)) (Or.inl rfl) (by decide +kernel) (by constructor <;> first | decide +kernel | (simp only [Nat.zero_add]; exact Nat.le_refl _)) dX11_init_70 ei61 eh62 (fun L63 q63 E63 Q63 => ?_)
  rw [← Q63 o (sd_of hω b60.1) b60.2]
  refine x_dup X dX11_init_73 rfl ?_
  obtain ⟨b64, hf⟩ := ckW2_some hf
  obtain ⟨b65, hf⟩ := ckW2_some hf
  obtain ⟨h66, uh66, g67, hf⟩ := bnd_some hf
  refine x_callI X [] [.ref (q63 i61), .ref (q63 o)] (kz_J4_init_da8c8 hω g67) (by intro w hw; simp only [List.mem_cons, List.not_mem_nil, or_false] at hw; rcases hw with rfl | rfl | rfl <;> first | exact (mT_1 142 rfl rfl) | exact (mT_1 143 rfl rfl) | exact (mT_1 6 rfl rfl)) (mT_1 144 rfl rfl) rfl ⟨by decide, by decide, (by decide : (parseMethodDescriptor yJ4_init_da8c8.desc).map (fun d => d.parameters.length) = some 0)⟩ ⟨Nat.le_of_ble_eq_true rfl, Nat.le_of_ble_eq_true rfl⟩ (by constructor <;> first | decide +kernel | (simp only [Nat.zero_add]; exact Nat.le_refl _)) rfl (Nat.le_of_ble_eq_true rfl) dX11_init_74 (fun L68 q68 E68 Q68 => ?_)
  rw [← Q68 o (sd_of hω b64.1) b64.2]
  rw [← Q68 i61 (sd_of hω b65.1) b65.2]
  obtain ⟨b69, hf⟩ := ckO_some hf
  obtain ⟨b70, hf⟩ := ckV2_some hf
  refine x_putGr X (i := o) (o := (some i61)) fl_X11_54_12 fw_12 (sd_of hω b69.1) b69.2 rfl (Or.inr ⟨rfl, hini rfl, rfl⟩) (lv_of2 hω b70) rfl rfl rfl dX11_init_77 ?_
  obtain ⟨h71, eh71, hf⟩ := nm_some hf
  refine x_nmh eh71 ?_
  refine x_aload_n X dX11_init_80 0 rfl rfl ?_
  refine x_bipush X (v := 6) dX11_init_81 (by decide) ?_
  obtain ⟨b72, hf⟩ := ckW2_some hf
  obtain ⟨i73, ei73, hf⟩ := nm_some hf
  obtain ⟨h74, eh74, hf⟩ := nm_some hf
  refine x_newaI X (N := 6) (mT_1 57 rfl rfl) (by decide) (by decide +kernel) (by decide) (by constructor <;> first | decide +kernel | (simp only [Nat.zero_add]; exact Nat.le_refl _)) dX11_init_83 ei73 eh74 (fun L75 q75 E75 Q75 => ?_)
  rw [← Q75 o (sd_of hω b72.1) b72.2]
  obtain ⟨b76, hf⟩ := ckO_some hf
  obtain ⟨b77, hf⟩ := ckV2_some hf
  refine x_putGr X (i := o) (o := (some i73)) fl_X11_58_12 fw_12 (sd_of hω b76.1) b76.2 rfl (Or.inr ⟨rfl, hini rfl, rfl⟩) (lv_of2 hω b77) rfl rfl rfl dX11_init_85 ?_
  obtain ⟨h78, eh78, hf⟩ := nm_some hf
  refine x_nmh eh78 ?_
  refine x_aload_n X dX11_init_88 0 rfl rfl ?_
  refine x_bipush X (v := 16) dX11_init_89 (by decide) ?_
  obtain ⟨b79, hf⟩ := ckW2_some hf
  obtain ⟨i80, ei80, hf⟩ := nm_some hf
  obtain ⟨h81, eh81, hf⟩ := nm_some hf
  refine x_newaJ X (N := 16) (mT_1 189 rfl rfl) (by decide) (by decide +kernel) (by decide) (by constructor <;> first | decide +kernel | (simp only [Nat.zero_add]; exact Nat.le_refl _)) dX11_init_91 ei80 eh81 (fun L82 q82 E82 Q82 => ?_)
  rw [← Q82 o (sd_of hω b79.1) b79.2]
  obtain ⟨b83, hf⟩ := ckO_some hf
  obtain ⟨b84, hf⟩ := ckV2_some hf
  refine x_putGr X (i := o) (o := (some i80)) fl_X11_62_12 fw_12 (sd_of hω b83.1) b83.2 rfl (Or.inr ⟨rfl, hini rfl, rfl⟩) (lv_of2 hω b84) rfl rfl rfl dX11_init_93 ?_
  obtain ⟨h85, eh85, hf⟩ := nm_some hf
  refine x_nmh eh85 ?_
  refine x_aload_n X dX11_init_96 0 rfl rfl ?_
  refine x_iconst X (v := 5) dX11_init_97 (by decide) ?_
  obtain ⟨b86, hf⟩ := ckW2_some hf
  obtain ⟨i87, ei87, hf⟩ := nm_some hf
  obtain ⟨h88, eh88, hf⟩ := nm_some hf
  refine x_newaI X (N := 5) (mT_1 57 rfl rfl) (by decide) (by decide +kernel) (by decide) (by constructor <;> first | decide +kernel | (simp only [Nat.zero_add]; exact Nat.le_refl _)) dX11_init_98 ei87 eh88 (fun L89 q89 E89 Q89 => ?_)
  rw [← Q89 o (sd_of hω b86.1) b86.2]
  obtain ⟨b90, hf⟩ := ckO_some hf
  obtain ⟨b91, hf⟩ := ckV2_some hf
  refine x_putGr X (i := o) (o := (some i87)) fl_X11_66_12 fw_12 (sd_of hω b90.1) b90.2 rfl (Or.inr ⟨rfl, hini rfl, rfl⟩) (lv_of2 hω b91) rfl rfl rfl dX11_init_100 ?_
  obtain ⟨h92, eh92, hf⟩ := nm_some hf
  refine x_nmh eh92 ?_
  refine x_aload_n X dX11_init_103 0 rfl rfl ?_
  refine x_iconst X (v := 5) dX11_init_104 (by decide) ?_
  obtain ⟨b93, hf⟩ := ckW2_some hf
  obtain ⟨i94, ei94, hf⟩ := nm_some hf
  obtain ⟨h95, eh95, hf⟩ := nm_some hf
  refine x_newaI X (N := 5) (mT_1 57 rfl rfl) (by decide) (by decide +kernel) (by decide) (by constructor <;> first | decide +kernel | (simp only [Nat.zero_add]; exact Nat.le_refl _)) dX11_init_105 ei94 eh95 (fun L96 q96 E96 Q96 => ?_)
  rw [← Q96 o (sd_of hω b93.1) b93.2]
  obtain ⟨b97, hf⟩ := ckO_some hf
  obtain ⟨b98, hf⟩ := ckV2_some hf
  refine x_putGr X (i := o) (o := (some i94)) fl_X11_69_12 fw_12 (sd_of hω b97.1) b97.2 rfl (Or.inr ⟨rfl, hini rfl, rfl⟩) (lv_of2 hω b98) rfl rfl rfl dX11_init_107 ?_
  obtain ⟨h99, eh99, hf⟩ := nm_some hf
  refine x_nmh eh99 ?_
  refine x_iconst X (v := 0) dX11_init_110 (by decide) ?_
  refine x_istore_n X [(1, .int (0 : Int32)), (0, .ref (q96 o))] dX11_init_111 rfl (Nat.le_of_ble_eq_true rfl) rfl ?_
  refine x_iload_n X dX11_init_112 0 rfl rfl ?_
  refine x_bipush X (v := 6) dX11_init_113 (by decide) ?_
  refine x_icmp_ge X 137 dX11_init_115 (by decide) (fun c100 => ?_) (fun c100 => ?_)
  · refine x_aload_n X dX11_init_118 1 rfl rfl ?_
    obtain ⟨b101, hf⟩ := ckO_some hf
    refine x_getGr X (i := o) fl_X11_47_12 (sd_of hω b101.1) b101.2 rfl dX11_init_119 ?_
    obtain ⟨i102, ei102, hf⟩ := onO_some hf
    refine x_nn ei102 ?_
    refine x_iload_n X dX11_init_122 0 rfl rfl ?_
    obtain ⟨b103, hf⟩ := ckW2_some hf
    obtain ⟨b104, hf⟩ := ckW2_some hf
    obtain ⟨i105, ei105, hf⟩ := nm_some hf
    obtain ⟨h106, eh106, hf⟩ := nm_some hf
    refine xg_new X (ci := 7) (k := (20 + 7)) (C := RX6) (T := TX6) (N := 3) (by decide) rfl fw_7 inA_7 (by intro w hw; simp only [List.mem_cons, List.not_mem_nil, or_false] at hw; rcases hw with rfl | rfl | rfl <;> first | exact (mT_1 138 rfl rfl) | exact (mT_1 172 rfl rfl) | exact (mT_1 9 rfl rfl)) (Or.inl rfl) (by decide +kernel) (by constructor <;> first | decide +kernel | (simp only [Nat.zero_add]; exact Nat.le_refl _)) dX11_init_123 ei105 eh106 (fun L107 q107 E107 Q107 => ?_)
    rw [← Q107 o (sd_of hω b103.1) b103.2]
    rw [← Q107 i102 (sd_of hω b104.1) b104.2]
    refine x_dup X dX11_init_126 rfl ?_
    obtain ⟨b108, hf⟩ := ckW2_some hf
    obtain ⟨b109, hf⟩ := ckW2_some hf
    obtain ⟨b110, hf⟩ := ckW2_some hf
    obtain ⟨h111, uh111, g112, hf⟩ := bnd_some hf
    refine x_callIN X [] [.ref (q107 i105), .int (0 : Int32), .ref (q107 i102)] (kz_X6_init hω g112) (host := "SignalBlind") (by simp [nwM]) (by intro w hw; simp only [List.mem_cons, List.not_mem_nil, or_false] at hw; rcases hw with rfl | rfl <;> first | exact (mT_1 174 rfl rfl) | exact (mT_1 9 rfl rfl)) (mT_1 175 rfl rfl) rfl ⟨by decide, by decide, (by decide : (parseMethodDescriptor yX6_init.desc).map (fun d => d.parameters.length) = some 0)⟩ ⟨Nat.le_of_ble_eq_true rfl, Nat.le_of_ble_eq_true rfl⟩ (by constructor <;> first | decide +kernel | (simp only [Nat.zero_add]; exact Nat.le_refl _)) rfl (Nat.le_of_ble_eq_true rfl) dX11_init_127 (fun L113 q113 E113 Q113 => ?_)
    rw [← Q113 o (sd_of hω b108.1) b108.2]
    rw [← Q113 i105 (sd_of hω b109.1) b109.2]
    rw [← Q113 i102 (sd_of hω b110.1) b110.2]
    obtain ⟨b114, hf⟩ := ckA_some hf
    obtain ⟨z115, hf⟩ := chk_some hf
    obtain ⟨b116, hf⟩ := ckO_some hf
    refine x_aastT X (i := i102) (n := (alen h111 i102)) (a := i105) (sd_of hω b116.1) b116.2 (sd_of hω b114.1) b114.2 z115 dX11_init_130 ?_
    obtain ⟨h117, eh117, hf⟩ := nm_some hf
    refine x_nmh eh117 ?_
    refine x_iincN X (v := 1) (by decide : (1 : Int32) = (0 : Int32) + (1 : Int32)) [(1, .int (1 : Int32)), (0, .ref (q113 o))] dX11_init_131 0 rfl (by decide) (Nat.le_of_ble_eq_true rfl) rfl ?_
    refine x_goto X 112 dX11_init_134 (by decide) ?_
    refine x_iload_n X dX11_init_112 0 rfl rfl ?_
    refine x_bipush X (v := 6) dX11_init_113 (by decide) ?_
    refine x_icmp_ge X 137 dX11_init_115 (by decide) (fun c118 => ?_) (fun c118 => ?_)
    · refine x_aload_n X dX11_init_118 1 rfl rfl ?_
      obtain ⟨b119, hf⟩ := ckO_some hf
      refine x_getGr X (i := o) fl_X11_47_12 (sd_of hω b119.1) b119.2 rfl dX11_init_119 ?_
      obtain ⟨i120, ei120, hf⟩ := onO_some hf
      refine x_nn ei120 ?_
      refine x_iload_n X dX11_init_122 0 rfl rfl ?_
      obtain ⟨b121, hf⟩ := ckW2_some hf
      obtain ⟨b122, hf⟩ := ckW2_some hf
      obtain ⟨i123, ei123, hf⟩ := nm_some hf
      obtain ⟨h124, eh124, hf⟩ := nm_some hf
      refine xg_new X (ci := 7) (k := (20 + 7)) (C := RX6) (T := TX6) (N := 3) (by decide) rfl fw_7 inA_7 (by intro w hw; simp only [List.mem_cons, List.not_mem_nil, or_false] at hw; rcases hw with rfl | rfl | rfl <;> first | exact (mT_1 138 rfl rfl) | exact (mT_1 172 rfl rfl) | exact (mT_1 9 rfl rfl)) (Or.inl rfl) (by decide +kernel) (by constructor <;> first | decide +kernel | (simp only [Nat.zero_add]; exact Nat.le_refl _)) dX11_init_123 ei123 eh124 (fun L125 q125 E125 Q125 => ?_)
      rw [← Q125 o (sd_of hω b121.1) b121.2]
      rw [← Q125 i120 (sd_of hω b122.1) b122.2]
      refine x_dup X dX11_init_126 rfl ?_
      obtain ⟨b126, hf⟩ := ckW2_some hf
      obtain ⟨b127, hf⟩ := ckW2_some hf
      obtain ⟨b128, hf⟩ := ckW2_some hf
      obtain ⟨h129, uh129, g130, hf⟩ := bnd_some hf
      refine x_callIN X [] [.ref (q125 i123), .int (1 : Int32), .ref (q125 i120)] (kz_X6_init hω g130) (host := "SignalBlind") (by simp [nwM]) (by intro w hw; simp only [List.mem_cons, List.not_mem_nil, or_false] at hw; rcases hw with rfl | rfl <;> first | exact (mT_1 174 rfl rfl) | exact (mT_1 9 rfl rfl)) (mT_1 175 rfl rfl) rfl ⟨by decide, by decide, (by decide : (parseMethodDescriptor yX6_init.desc).map (fun d => d.parameters.length) = some 0)⟩ ⟨Nat.le_of_ble_eq_true rfl, Nat.le_of_ble_eq_true rfl⟩ (by constructor <;> first | decide +kernel | (simp only [Nat.zero_add]; exact Nat.le_refl _)) rfl (Nat.le_of_ble_eq_true rfl) dX11_init_127 (fun L131 q131 E131 Q131 => ?_)
      rw [← Q131 o (sd_of hω b126.1) b126.2]
      rw [← Q131 i123 (sd_of hω b127.1) b127.2]
      rw [← Q131 i120 (sd_of hω b128.1) b128.2]
      obtain ⟨b132, hf⟩ := ckA_some hf
      obtain ⟨z133, hf⟩ := chk_some hf
      obtain ⟨b134, hf⟩ := ckO_some hf
      refine x_aastT X (i := i120) (n := (alen h129 i120)) (a := i123) (sd_of hω b134.1) b134.2 (sd_of hω b132.1) b132.2 z133 dX11_init_130 ?_
      obtain ⟨h135, eh135, hf⟩ := nm_some hf
      refine x_nmh eh135 ?_
      refine x_iincN X (v := 1) (by decide : (2 : Int32) = (1 : Int32) + (1 : Int32)) [(1, .int (2 : Int32)), (0, .ref (q131 o))] dX11_init_131 0 rfl (by decide) (Nat.le_of_ble_eq_true rfl) rfl ?_
      refine x_goto X 112 dX11_init_134 (by decide) ?_
      refine x_iload_n X dX11_init_112 0 rfl rfl ?_
      refine x_bipush X (v := 6) dX11_init_113 (by decide) ?_
      refine x_icmp_ge X 137 dX11_init_115 (by decide) (fun c136 => ?_) (fun c136 => ?_)
      · refine x_aload_n X dX11_init_118 1 rfl rfl ?_
        obtain ⟨b137, hf⟩ := ckO_some hf
        refine x_getGr X (i := o) fl_X11_47_12 (sd_of hω b137.1) b137.2 rfl dX11_init_119 ?_
        obtain ⟨i138, ei138, hf⟩ := onO_some hf
        refine x_nn ei138 ?_
        refine x_iload_n X dX11_init_122 0 rfl rfl ?_
        obtain ⟨b139, hf⟩ := ckW2_some hf
        obtain ⟨b140, hf⟩ := ckW2_some hf
        obtain ⟨i141, ei141, hf⟩ := nm_some hf
        obtain ⟨h142, eh142, hf⟩ := nm_some hf
        refine xg_new X (ci := 7) (k := (20 + 7)) (C := RX6) (T := TX6) (N := 3) (by decide) rfl fw_7 inA_7 (by intro w hw; simp only [List.mem_cons, List.not_mem_nil, or_false] at hw; rcases hw with rfl | rfl | rfl <;> first | exact (mT_1 138 rfl rfl) | exact (mT_1 172 rfl rfl) | exact (mT_1 9 rfl rfl)) (Or.inl rfl) (by decide +kernel) (by constructor <;> first | decide +kernel | (simp only [Nat.zero_add]; exact Nat.le_refl _)) dX11_init_123 ei141 eh142 (fun L143 q143 E143 Q143 => ?_)
        rw [← Q143 o (sd_of hω b139.1) b139.2]
        rw [← Q143 i138 (sd_of hω b140.1) b140.2]
        refine x_dup X dX11_init_126 rfl ?_
        obtain ⟨b144, hf⟩ := ckW2_some hf
        obtain ⟨b145, hf⟩ := ckW2_some hf
        obtain ⟨b146, hf⟩ := ckW2_some hf
        obtain ⟨h147, uh147, g148, hf⟩ := bnd_some hf
        refine x_callIN X [] [.ref (q143 i141), .int (2 : Int32), .ref (q143 i138)] (kz_X6_init hω g148) (host := "SignalBlind") (by simp [nwM]) (by intro w hw; simp only [List.mem_cons, List.not_mem_nil, or_false] at hw; rcases hw with rfl | rfl <;> first | exact (mT_1 174 rfl rfl) | exact (mT_1 9 rfl rfl)) (mT_1 175 rfl rfl) rfl ⟨by decide, by decide, (by decide : (parseMethodDescriptor yX6_init.desc).map (fun d => d.parameters.length) = some 0)⟩ ⟨Nat.le_of_ble_eq_true rfl, Nat.le_of_ble_eq_true rfl⟩ (by constructor <;> first | decide +kernel | (simp only [Nat.zero_add]; exact Nat.le_refl _)) rfl (Nat.le_of_ble_eq_true rfl) dX11_init_127 (fun L149 q149 E149 Q149 => ?_)
        rw [← Q149 o (sd_of hω b144.1) b144.2]
        rw [← Q149 i141 (sd_of hω b145.1) b145.2]
        rw [← Q149 i138 (sd_of hω b146.1) b146.2]
        obtain ⟨b150, hf⟩ := ckA_some hf
        obtain ⟨z151, hf⟩ := chk_some hf
        obtain ⟨b152, hf⟩ := ckO_some hf
        refine x_aastT X (i := i138) (n := (alen h147 i138)) (a := i141) (sd_of hω b152.1) b152.2 (sd_of hω b150.1) b150.2 z151 dX11_init_130 ?_
        obtain ⟨h153, eh153, hf⟩ := nm_some hf
        refine x_nmh eh153 ?_
        refine x_iincN X (v := 1) (by decide : (3 : Int32) = (2 : Int32) + (1 : Int32)) [(1, .int (3 : Int32)), (0, .ref (q149 o))] dX11_init_131 0 rfl (by decide) (Nat.le_of_ble_eq_true rfl) rfl ?_
        refine x_goto X 112 dX11_init_134 (by decide) ?_
        refine x_iload_n X dX11_init_112 0 rfl rfl ?_
        refine x_bipush X (v := 6) dX11_init_113 (by decide) ?_
        refine x_icmp_ge X 137 dX11_init_115 (by decide) (fun c154 => ?_) (fun c154 => ?_)
        · refine x_aload_n X dX11_init_118 1 rfl rfl ?_
          obtain ⟨b155, hf⟩ := ckO_some hf
          refine x_getGr X (i := o) fl_X11_47_12 (sd_of hω b155.1) b155.2 rfl dX11_init_119 ?_
          obtain ⟨i156, ei156, hf⟩ := onO_some hf
          refine x_nn ei156 ?_
          refine x_iload_n X dX11_init_122 0 rfl rfl ?_
          obtain ⟨b157, hf⟩ := ckW2_some hf
          obtain ⟨b158, hf⟩ := ckW2_some hf
          obtain ⟨i159, ei159, hf⟩ := nm_some hf
          obtain ⟨h160, eh160, hf⟩ := nm_some hf
          refine xg_new X (ci := 7) (k := (20 + 7)) (C := RX6) (T := TX6) (N := 3) (by decide) rfl fw_7 inA_7 (by intro w hw; simp only [List.mem_cons, List.not_mem_nil, or_false] at hw; rcases hw with rfl | rfl | rfl <;> first | exact (mT_1 138 rfl rfl) | exact (mT_1 172 rfl rfl) | exact (mT_1 9 rfl rfl)) (Or.inl rfl) (by decide +kernel) (by constructor <;> first | decide +kernel | (simp only [Nat.zero_add]; exact Nat.le_refl _)) dX11_init_123 ei159 eh160 (fun L161 q161 E161 Q161 => ?_)
          rw [← Q161 o (sd_of hω b157.1) b157.2]
          rw [← Q161 i156 (sd_of hω b158.1) b158.2]
          refine x_dup X dX11_init_126 rfl ?_
          obtain ⟨b162, hf⟩ := ckW2_some hf
          obtain ⟨b163, hf⟩ := ckW2_some hf
          obtain ⟨b164, hf⟩ := ckW2_some hf
          obtain ⟨h165, uh165, g166, hf⟩ := bnd_some hf
          refine x_callIN X [] [.ref (q161 i159), .int (3 : Int32), .ref (q161 i156)] (kz_X6_init hω g166) (host := "SignalBlind") (by simp [nwM]) (by intro w hw; simp only [List.mem_cons, List.not_mem_nil, or_false] at hw; rcases hw with rfl | rfl <;> first | exact (mT_1 174 rfl rfl) | exact (mT_1 9 rfl rfl)) (mT_1 175 rfl rfl) rfl ⟨by decide, by decide, (by decide : (parseMethodDescriptor yX6_init.desc).map (fun d => d.parameters.length) = some 0)⟩ ⟨Nat.le_of_ble_eq_true rfl, Nat.le_of_ble_eq_true rfl⟩ (by constructor <;> first | decide +kernel | (simp only [Nat.zero_add]; exact Nat.le_refl _)) rfl (Nat.le_of_ble_eq_true rfl) dX11_init_127 (fun L167 q167 E167 Q167 => ?_)
          rw [← Q167 o (sd_of hω b162.1) b162.2]
          rw [← Q167 i159 (sd_of hω b163.1) b163.2]
          rw [← Q167 i156 (sd_of hω b164.1) b164.2]
          obtain ⟨b168, hf⟩ := ckA_some hf
          obtain ⟨z169, hf⟩ := chk_some hf
          obtain ⟨b170, hf⟩ := ckO_some hf
          refine x_aastT X (i := i156) (n := (alen h165 i156)) (a := i159) (sd_of hω b170.1) b170.2 (sd_of hω b168.1) b168.2 z169 dX11_init_130 ?_
          obtain ⟨h171, eh171, hf⟩ := nm_some hf
          refine x_nmh eh171 ?_
          refine x_iincN X (v := 1) (by decide : (4 : Int32) = (3 : Int32) + (1 : Int32)) [(1, .int (4 : Int32)), (0, .ref (q167 o))] dX11_init_131 0 rfl (by decide) (Nat.le_of_ble_eq_true rfl) rfl ?_
          refine x_goto X 112 dX11_init_134 (by decide) ?_
          refine x_iload_n X dX11_init_112 0 rfl rfl ?_
          refine x_bipush X (v := 6) dX11_init_113 (by decide) ?_
          refine x_icmp_ge X 137 dX11_init_115 (by decide) (fun c172 => ?_) (fun c172 => ?_)
          · refine x_aload_n X dX11_init_118 1 rfl rfl ?_
            obtain ⟨b173, hf⟩ := ckO_some hf
            refine x_getGr X (i := o) fl_X11_47_12 (sd_of hω b173.1) b173.2 rfl dX11_init_119 ?_
            obtain ⟨i174, ei174, hf⟩ := onO_some hf
            refine x_nn ei174 ?_
            refine x_iload_n X dX11_init_122 0 rfl rfl ?_
            obtain ⟨b175, hf⟩ := ckW2_some hf
            obtain ⟨b176, hf⟩ := ckW2_some hf
            obtain ⟨i177, ei177, hf⟩ := nm_some hf
            obtain ⟨h178, eh178, hf⟩ := nm_some hf
            refine xg_new X (ci := 7) (k := (20 + 7)) (C := RX6) (T := TX6) (N := 3) (by decide) rfl fw_7 inA_7 (by intro w hw; simp only [List.mem_cons, List.not_mem_nil, or_false] at hw; rcases hw with rfl | rfl | rfl <;> first | exact (mT_1 138 rfl rfl) | exact (mT_1 172 rfl rfl) | exact (mT_1 9 rfl rfl)) (Or.inl rfl) (by decide +kernel) (by constructor <;> first | decide +kernel | (simp only [Nat.zero_add]; exact Nat.le_refl _)) dX11_init_123 ei177 eh178 (fun L179 q179 E179 Q179 => ?_)
            rw [← Q179 o (sd_of hω b175.1) b175.2]
            rw [← Q179 i174 (sd_of hω b176.1) b176.2]
            refine x_dup X dX11_init_126 rfl ?_
            obtain ⟨b180, hf⟩ := ckW2_some hf
            obtain ⟨b181, hf⟩ := ckW2_some hf
            obtain ⟨b182, hf⟩ := ckW2_some hf
            obtain ⟨h183, uh183, g184, hf⟩ := bnd_some hf
            refine x_callIN X [] [.ref (q179 i177), .int (4 : Int32), .ref (q179 i174)] (kz_X6_init hω g184) (host := "SignalBlind") (by simp [nwM]) (by intro w hw; simp only [List.mem_cons, List.not_mem_nil, or_false] at hw; rcases hw with rfl | rfl <;> first | exact (mT_1 174 rfl rfl) | exact (mT_1 9 rfl rfl)) (mT_1 175 rfl rfl) rfl ⟨by decide, by decide, (by decide : (parseMethodDescriptor yX6_init.desc).map (fun d => d.parameters.length) = some 0)⟩ ⟨Nat.le_of_ble_eq_true rfl, Nat.le_of_ble_eq_true rfl⟩ (by constructor <;> first | decide +kernel | (simp only [Nat.zero_add]; exact Nat.le_refl _)) rfl (Nat.le_of_ble_eq_true rfl) dX11_init_127 (fun L185 q185 E185 Q185 => ?_)
            rw [← Q185 o (sd_of hω b180.1) b180.2]
            rw [← Q185 i177 (sd_of hω b181.1) b181.2]
            rw [← Q185 i174 (sd_of hω b182.1) b182.2]
            obtain ⟨b186, hf⟩ := ckA_some hf
            obtain ⟨z187, hf⟩ := chk_some hf
            obtain ⟨b188, hf⟩ := ckO_some hf
            refine x_aastT X (i := i174) (n := (alen h183 i174)) (a := i177) (sd_of hω b188.1) b188.2 (sd_of hω b186.1) b186.2 z187 dX11_init_130 ?_
            obtain ⟨h189, eh189, hf⟩ := nm_some hf
            refine x_nmh eh189 ?_
            refine x_iincN X (v := 1) (by decide : (5 : Int32) = (4 : Int32) + (1 : Int32)) [(1, .int (5 : Int32)), (0, .ref (q185 o))] dX11_init_131 0 rfl (by decide) (Nat.le_of_ble_eq_true rfl) rfl ?_
            refine x_goto X 112 dX11_init_134 (by decide) ?_
            refine x_iload_n X dX11_init_112 0 rfl rfl ?_
            refine x_bipush X (v := 6) dX11_init_113 (by decide) ?_
            refine x_icmp_ge X 137 dX11_init_115 (by decide) (fun c190 => ?_) (fun c190 => ?_)
            · refine x_aload_n X dX11_init_118 1 rfl rfl ?_
              obtain ⟨b191, hf⟩ := ckO_some hf
              refine x_getGr X (i := o) fl_X11_47_12 (sd_of hω b191.1) b191.2 rfl dX11_init_119 ?_
              obtain ⟨i192, ei192, hf⟩ := onO_some hf
              refine x_nn ei192 ?_
              refine x_iload_n X dX11_init_122 0 rfl rfl ?_
              obtain ⟨b193, hf⟩ := ckW2_some hf
              obtain ⟨b194, hf⟩ := ckW2_some hf
              obtain ⟨i195, ei195, hf⟩ := nm_some hf
              obtain ⟨h196, eh196, hf⟩ := nm_some hf
              refine xg_new X (ci := 7) (k := (20 + 7)) (C := RX6) (T := TX6) (N := 3) (by decide) rfl fw_7 inA_7 (by intro w hw; simp only [List.mem_cons, List.not_mem_nil, or_false] at hw; rcases hw with rfl | rfl | rfl <;> first | exact (mT_1 138 rfl rfl) | exact (mT_1 172 rfl rfl) | exact (mT_1 9 rfl rfl)) (Or.inl rfl) (by decide +kernel) (by constructor <;> first | decide +kernel | (simp only [Nat.zero_add]; exact Nat.le_refl _)) dX11_init_123 ei195 eh196 (fun L197 q197 E197 Q197 => ?_)
              rw [← Q197 o (sd_of hω b193.1) b193.2]
              rw [← Q197 i192 (sd_of hω b194.1) b194.2]
              refine x_dup X dX11_init_126 rfl ?_
              obtain ⟨b198, hf⟩ := ckW2_some hf
              obtain ⟨b199, hf⟩ := ckW2_some hf
              obtain ⟨b200, hf⟩ := ckW2_some hf
              obtain ⟨h201, uh201, g202, hf⟩ := bnd_some hf
              refine x_callIN X [] [.ref (q197 i195), .int (5 : Int32), .ref (q197 i192)] (kz_X6_init hω g202) (host := "SignalBlind") (by simp [nwM]) (by intro w hw; simp only [List.mem_cons, List.not_mem_nil, or_false] at hw; rcases hw with rfl | rfl <;> first | exact (mT_1 174 rfl rfl) | exact (mT_1 9 rfl rfl)) (mT_1 175 rfl rfl) rfl ⟨by decide, by decide, (by decide : (parseMethodDescriptor yX6_init.desc).map (fun d => d.parameters.length) = some 0)⟩ ⟨Nat.le_of_ble_eq_true rfl, Nat.le_of_ble_eq_true rfl⟩ (by constructor <;> first | decide +kernel | (simp only [Nat.zero_add]; exact Nat.le_refl _)) rfl (Nat.le_of_ble_eq_true rfl) dX11_init_127 (fun L203 q203 E203 Q203 => ?_)
              rw [← Q203 o (sd_of hω b198.1) b198.2]
              rw [← Q203 i195 (sd_of hω b199.1) b199.2]
              rw [← Q203 i192 (sd_of hω b200.1) b200.2]
              obtain ⟨b204, hf⟩ := ckA_some hf
              obtain ⟨z205, hf⟩ := chk_some hf
              obtain ⟨b206, hf⟩ := ckO_some hf
              refine x_aastT X (i := i192) (n := (alen h201 i192)) (a := i195) (sd_of hω b206.1) b206.2 (sd_of hω b204.1) b204.2 z205 dX11_init_130 ?_
              obtain ⟨h207, eh207, hf⟩ := nm_some hf
              refine x_nmh eh207 ?_
              refine x_iincN X (v := 1) (by decide : (6 : Int32) = (5 : Int32) + (1 : Int32)) [(1, .int (6 : Int32)), (0, .ref (q203 o))] dX11_init_131 0 rfl (by decide) (Nat.le_of_ble_eq_true rfl) rfl ?_
              refine x_goto X 112 dX11_init_134 (by decide) ?_
              refine x_iload_n X dX11_init_112 0 rfl rfl ?_
              refine x_bipush X (v := 6) dX11_init_113 (by decide) ?_
              refine x_icmp_ge X 137 dX11_init_115 (by decide) (fun c208 => ?_) (fun c208 => ?_)
              · exact absurd c208 (by decide)
              · obtain ⟨b209, hf⟩ := ckSl2_some hf
                obtain ⟨h210, eh210, hf⟩ := nm_some hf
                refine xg_seal2 hω b209 eh210 ?_
                exact x_retNV X R ((((((((((((((((((((((((((E4.tr E9).tr E16).tr E21).tr E30).tr E35).tr E42).tr E47).tr E56).tr E63).tr E68).tr E75).tr E82).tr E89).tr E96).tr E107).tr E113).tr E125).tr E131).tr E143).tr E149).tr E161).tr E167).tr E179).tr E185).tr E197).tr E203) hf (by constructor <;> first | decide +kernel | (simp only [Nat.zero_add]; exact Nat.le_refl _)) dX11_init_137
            · exact absurd c190 (by decide)
          · exact absurd c172 (by decide)
        · exact absurd c154 (by decide)
      · exact absurd c136 (by decide)
    · exact absurd c118 (by decide)
  · exact absurd c100 (by decide)
abbrev rm_X12_init : Room := { frames := 1, cells := 38, slots := 2803, locals := 20 }
set_option maxRecDepth 100000 in
def fz_X12_init (h : hp) (o : Nat) : Option (hp × Unit) := (ckO 2 h o (20 + 13)
 (nm (sI h o 0 (0 : Int32)) fun h2 =>
 (ckO 2 h2 o (20 + 13)
 (nm (sI h2 o 1 (0 : Int32)) fun h4 =>
 (ckO 2 h4 o (20 + 13)
 (nm (sI h4 o 2 (0 : Int32)) fun h6 =>
 (ckW2 h6 o
 (nm (nid h6) fun i8 =>
 (nm (nwk h6 (40 + 10 * 8 + 0)) fun h9 =>
 (ckO 2 h9 o (20 + 13)
 (ckV2 h9 (some i8)
 (nm (sR h9 o 3 (some i8)) fun h13 =>
 (ckW2 h13 o
 (nm (nid h13) fun i15 =>
 (nm (nwk h13 (40 + 10 * 5 + 0)) fun h16 =>
 (ckO 2 h16 o (20 + 13)
 (ckV2 h16 (some i15)
 (nm (sR h16 o 4 (some i15)) fun h20 =>
 (ckW2 h20 o
 (nm (nid h20) fun i22 =>
 (nm (nwk h20 (40 + 10 * 5 + 0)) fun h23 =>
 (ckO 2 h23 o (20 + 13)
 (ckV2 h23 (some i22)
 (nm (sR h23 o 5 (some i22)) fun h27 =>
 (ckW2 h27 o
 (nm (nid h27) fun i29 =>
 (nm (nwk h27 (40 + 10 * 5 + 0)) fun h30 =>
 (ckO 2 h30 o (20 + 13)
 (ckV2 h30 (some i29)
 (nm (sR h30 o 6 (some i29)) fun h34 =>
 (ckW2 h34 o
 (nm (nid h34) fun i36 =>
 (nm (nwk h34 (40 + 10 * 20 + 0)) fun h37 =>
 (ckO 2 h37 o (20 + 13)
 (ckV2 h37 (some i36)
 (nm (sR h37 o 7 (some i36)) fun h41 =>
 (ckO 2 h41 o (20 + 13)
 (nm (sI h41 o 8 (0 : Int32)) fun h43 =>
 (ckO 2 h43 o (20 + 13)
 (nm (sI h43 o 9 (-1 : Int32)) fun h45 =>
 (ckO 2 h45 o (20 + 13)
 (nm (sI h45 o 10 (0 : Int32)) fun h47 =>
 (ckO 2 h47 o (20 + 13)
 (nm (sI h47 o 11 (0 : Int32)) fun h49 =>
 (ckO 2 h49 o (20 + 13)
 (nm (sI h49 o 12 (0 : Int32)) fun h51 =>
 (ckW2 h51 o
 (nm (nid h51) fun i53 =>
 (nm (nwk h51 (40 + 10 * 100 + 0)) fun h54 =>
 (ckO 2 h54 o (20 + 13)
 (ckV2 h54 (some i53)
 (nm (sR h54 o 13 (some i53)) fun h58 =>
 (ckW2 h58 o
 (nm (nid h58) fun i60 =>
 (nm (nwk h58 (40 + 10 * 6 + 0)) fun h61 =>
 (ckO 2 h61 o (20 + 13)
 (ckV2 h61 (some i60)
 (nm (sR h61 o 14 (some i60)) fun h65 =>
 (ckW2 h65 o
 (nm (nid h65) fun i67 =>
 (nm (nwk h65 (40 + 10 * 60 + 0)) fun h68 =>
 (ckO 2 h68 o (20 + 13)
 (ckV2 h68 (some i67)
 (nm (sR h68 o 15 (some i67)) fun h72 =>
 (ckW2 h72 o
 (nm (nid h72) fun i74 =>
 (nm (nwk h72 (40 + 10 * 60 + 0)) fun h75 =>
 (ckO 2 h75 o (20 + 13)
 (ckV2 h75 (some i74)
 (nm (sR h75 o 16 (some i74)) fun h79 =>
 (ckW2 h79 o
 (nm (nid h79) fun i81 =>
 (nm (nwk h79 (40 + 10 * 60 + 0)) fun h82 =>
 (ckO 2 h82 o (20 + 13)
 (ckV2 h82 (some i81)
 (nm (sR h82 o 17 (some i81)) fun h86 =>
 (ckW2 h86 o
 (nm (nid h86) fun i88 =>
 (nm (nwk h86 (40 + 10 * 60 + 0)) fun h89 =>
 (ckO 2 h89 o (20 + 13)
 (ckV2 h89 (some i88)
 (nm (sR h89 o 18 (some i88)) fun h93 =>
 (ckW2 h93 o
 (nm (nid h93) fun i95 =>
 (nm (nwk h93 (40 + 10 * 600 + 0)) fun h96 =>
 (ckO 2 h96 o (20 + 13)
 (ckV2 h96 (some i95)
 (nm (sR h96 o 19 (some i95)) fun h100 =>
 (ckW2 h100 o
 (nm (nid h100) fun i102 =>
 (nm (nwk h100 (40 + 10 * 101 + 0)) fun h103 =>
 (ckO 2 h103 o (20 + 13)
 (ckV2 h103 (some i102)
 (nm (sR h103 o 20 (some i102)) fun h107 =>
 (ckO 2 h107 o (20 + 13)
 (nm (sI h107 o 21 (0 : Int32)) fun h109 =>
 (ckO 2 h109 o (20 + 13)
 (nm (sI h109 o 22 (0 : Int32)) fun h111 =>
 (ckO 2 h111 o (20 + 13)
 (nm (sI h111 o 23 (0 : Int32)) fun h113 =>
 (ckW2 h113 o
 (nm (nid h113) fun i115 =>
 (nm (nwk h113 (40 + 10 * 16 + 0)) fun h116 =>
 (ckA 2 h116 i115 0
 (chk (0 : Int32) (alen h116 i115)
 (nm (tI h116 i115 ((0 : Int32)).toNatClampNeg (111 : Int32)) fun h120 =>
 (ckA 2 h120 i115 0
 (chk (1 : Int32) (alen h120 i115)
 (nm (tI h120 i115 ((1 : Int32)).toNatClampNeg (112 : Int32)) fun h123 =>
 (ckA 2 h123 i115 0
 (chk (2 : Int32) (alen h123 i115)
 (nm (tI h123 i115 ((2 : Int32)).toNatClampNeg (101 : Int32)) fun h126 =>
 (ckA 2 h126 i115 0
 (chk (3 : Int32) (alen h126 i115)
 (nm (tI h126 i115 ((3 : Int32)).toNatClampNeg (110 : Int32)) fun h129 =>
 (ckA 2 h129 i115 0
 (chk (4 : Int32) (alen h129 i115)
 (nm (tI h129 i115 ((4 : Int32)).toNatClampNeg (115 : Int32)) fun h132 =>
 (ckA 2 h132 i115 0
 (chk (5 : Int32) (alen h132 i115)
 (nm (tI h132 i115 ((5 : Int32)).toNatClampNeg (104 : Int32)) fun h135 =>
 (ckA 2 h135 i115 0
 (chk (6 : Int32) (alen h135 i115)
 (nm (tI h135 i115 ((6 : Int32)).toNatClampNeg (117 : Int32)) fun h138 =>
 (ckA 2 h138 i115 0
 (chk (7 : Int32) (alen h138 i115)
 (nm (tI h138 i115 ((7 : Int32)).toNatClampNeg (116 : Int32)) fun h141 =>
 (ckA 2 h141 i115 0
 (chk (8 : Int32) (alen h141 i115)
 (nm (tI h141 i115 ((8 : Int32)).toNatClampNeg (116 : Int32)) fun h144 =>
 (ckA 2 h144 i115 0
 (chk (9 : Int32) (alen h144 i115)
 (nm (tI h144 i115 ((9 : Int32)).toNatClampNeg (117 : Int32)) fun h147 =>
 (ckA 2 h147 i115 0
 (chk (10 : Int32) (alen h147 i115)
 (nm (tI h147 i115 ((10 : Int32)).toNatClampNeg (114 : Int32)) fun h150 =>
 (ckA 2 h150 i115 0
 (chk (11 : Int32) (alen h150 i115)
 (nm (tI h150 i115 ((11 : Int32)).toNatClampNeg (110 : Int32)) fun h153 =>
 (ckA 2 h153 i115 0
 (chk (12 : Int32) (alen h153 i115)
 (nm (tI h153 i115 ((12 : Int32)).toNatClampNeg (110 : Int32)) fun h156 =>
 (ckA 2 h156 i115 0
 (chk (13 : Int32) (alen h156 i115)
 (nm (tI h156 i115 ((13 : Int32)).toNatClampNeg (101 : Int32)) fun h159 =>
 (ckA 2 h159 i115 0
 (chk (14 : Int32) (alen h159 i115)
 (nm (tI h159 i115 ((14 : Int32)).toNatClampNeg (97 : Int32)) fun h162 =>
 (ckA 2 h162 i115 0
 (chk (15 : Int32) (alen h162 i115)
 (nm (tI h162 i115 ((15 : Int32)).toNatClampNeg (114 : Int32)) fun h165 =>
 (ckO 2 h165 o (20 + 13)
 (ckV2 h165 (some i115)
 (nm (sR h165 o 24 (some i115)) fun h168 =>
 (ckW2 h168 o
 (nm (nid h168) fun i170 =>
 (nm (nwk h168 (40 + 10 * 100 + 2)) fun h171 =>
 (ckO 2 h171 o (20 + 13)
 (ckV2 h171 (some i170)
 (nm (sR h171 o 25 (some i170)) fun h175 =>
 (ckW2 h175 o
 (nm (nid h175) fun i177 =>
 (nm (nwk h175 (40 + 10 * 1024 + 2)) fun h178 =>
 (ckO 2 h178 o (20 + 13)
 (ckV2 h178 (some i177)
 (nm (sR h178 o 26 (some i177)) fun h182 =>
 (ckW2 h182 o
 (nm (nid h182) fun i184 =>
 (nm (nwk h182 (40 + 10 * 5 + 0)) fun h185 =>
 (ckO 2 h185 o (20 + 13)
 (ckV2 h185 (some i184)
 (nm (sR h185 o 27 (some i184)) fun h189 =>
 (ckW2 h189 o
 (nm (nid h189) fun i191 =>
 (nm (nwk h189 (40 + 10 * 5 + 0)) fun h192 =>
 (ckO 2 h192 o (20 + 13)
 (ckV2 h192 (some i191)
 (nm (sR h192 o 28 (some i191)) fun h196 =>
 (ckO 2 h196 o (20 + 13)
 (nm (sI h196 o 29 (0 : Int32)) fun h198 =>
 (ckW2 h198 o
 (nm (nid h198) fun i200 =>
 (nm (nwk h198 (40 + 10 * 5 + 0)) fun h201 =>
 (ckO 2 h201 o (20 + 13)
 (ckV2 h201 (some i200)
 (nm (sR h201 o 30 (some i200)) fun h205 =>
 (ckW2 h205 o
 (nm (nid h205) fun i207 =>
 (nm (nwk h205 (40 + 10 * 5 + 0)) fun h208 =>
 (ckO 2 h208 o (20 + 13)
 (ckV2 h208 (some i207)
 (nm (sR h208 o 31 (some i207)) fun h212 =>
 (ckO 2 h212 o (20 + 13)
 (nm (sI h212 o 32 (0 : Int32)) fun h214 =>
 (ckO 2 h214 o (20 + 13)
 (nm (sI h214 o 33 (0 : Int32)) fun h216 =>
 (ckW2 h216 o
 (nm (nid h216) fun i218 =>
 (nm (nwk h216 (40 + 10 * 8 + 0)) fun h219 =>
 (ckO 2 h219 o (20 + 13)
 (ckV2 h219 (some i218)
 (nm (sR h219 o 34 (some i218)) fun h223 =>
 (ckW2 h223 o
 (nm (nid h223) fun i225 =>
 (nm (nwk h223 (40 + 10 * 8 + 0)) fun h226 =>
 (ckO 2 h226 o (20 + 13)
 (ckV2 h226 (some i225)
 (nm (sR h226 o 35 (some i225)) fun h230 =>
 (ckW2 h230 o
 (nm (nid h230) fun i232 =>
 (nm (nwk h230 (40 + 10 * 8 + 0)) fun h233 =>
 (ckO 2 h233 o (20 + 13)
 (ckV2 h233 (some i232)
 (nm (sR h233 o 36 (some i232)) fun h237 =>
 (ckO 2 h237 o (20 + 13)
 (nm (sI h237 o 37 (0 : Int32)) fun h239 =>
 (ckO 2 h239 o (20 + 13)
 (nm (sI h239 o 38 (-1 : Int32)) fun h241 =>
 (ckO 2 h241 o (20 + 13)
 (nm (sI h241 o 39 (0 : Int32)) fun h243 =>
 (ckO 2 h243 o (20 + 13)
 (nm (sI h243 o 40 (0 : Int32)) fun h245 =>
 (ckO 2 h245 o (20 + 13)
 (nm (sI h245 o 41 (0 : Int32)) fun h247 =>
 (ckO 2 h247 o (20 + 13)
 (nm (sI h247 o 42 (0 : Int32)) fun h249 =>
 (ckO 2 h249 o (20 + 13)
 (nm (sI h249 o 43 (0 : Int32)) fun h251 =>
 (ckO 2 h251 o (20 + 13)
 (nm (sI h251 o 44 (0 : Int32)) fun h253 =>
 (ckW2 h253 o
 (nm (nid h253) fun i255 =>
 (nm (nwk h253 (40 + 10 * 8 + 0)) fun h256 =>
 (ckO 2 h256 o (20 + 13)
 (ckV2 h256 (some i255)
 (nm (sR h256 o 45 (some i255)) fun h260 =>
 (ckW2 h260 o
 (nm (nid h260) fun i262 =>
 (nm (nwk h260 (40 + 10 * 5 + 0)) fun h263 =>
 (ckO 2 h263 o (20 + 13)
 (ckV2 h263 (some i262)
 (nm (sR h263 o 46 (some i262)) fun h267 =>
 (ckW2 h267 o
 (nm (nid h267) fun i269 =>
 (nm (nwk h267 (40 + 10 * 5 + 0)) fun h270 =>
 (ckO 2 h270 o (20 + 13)
 (ckV2 h270 (some i269)
 (nm (sR h270 o 47 (some i269)) fun h274 =>
 (ckW2 h274 o
 (nm (nid h274) fun i276 =>
 (nm (nwk h274 (40 + 10 * 5 + 0)) fun h277 =>
 (ckO 2 h277 o (20 + 13)
 (ckV2 h277 (some i276)
 (nm (sR h277 o 48 (some i276)) fun h281 =>
 (ckW2 h281 o
 (nm (nid h281) fun i283 =>
 (nm (nwk h281 (40 + 10 * 20 + 0)) fun h284 =>
 (ckO 2 h284 o (20 + 13)
 (ckV2 h284 (some i283)
 (nm (sR h284 o 49 (some i283)) fun h288 =>
 (ckW2 h288 o
 (nm (nid h288) fun i290 =>
 (nm (nwk h288 (40 + 10 * 5 + 0)) fun h291 =>
 (ckO 2 h291 o (20 + 13)
 (ckV2 h291 (some i290)
 (nm (sR h291 o 50 (some i290)) fun h295 =>
 (ckW2 h295 o
 (nm (nid h295) fun i297 =>
 (nm (nwk h295 (40 + 10 * 5 + 0)) fun h298 =>
 (ckO 2 h298 o (20 + 13)
 (ckV2 h298 (some i297)
 (nm (sR h298 o 51 (some i297)) fun h302 =>
 (ckW2 h302 o
 (nm (nid h302) fun i304 =>
 (nm (nwk h302 (40 + 10 * 8 + 0)) fun h305 =>
 (ckO 2 h305 o (20 + 13)
 (ckV2 h305 (some i304)
 (nm (sR h305 o 52 (some i304)) fun h309 =>
 (ckW2 h309 o
 (nm (nid h309) fun i311 =>
 (nm (nwk h309 (40 + 10 * 8 + 0)) fun h312 =>
 (ckO 2 h312 o (20 + 13)
 (ckV2 h312 (some i311)
 (nm (sR h312 o 53 (some i311)) fun h316 =>
 (ckW2 h316 o
 (nm (nid h316) fun i318 =>
 (nm (nwk h316 (40 + 10 * 8 + 0)) fun h319 =>
 (ckO 2 h319 o (20 + 13)
 (ckV2 h319 (some i318)
 (nm (sR h319 o 54 (some i318)) fun h323 =>
 (ckO 2 h323 o (20 + 13)
 (nm (sI h323 o 55 (0 : Int32)) fun h325 =>
 (ckW2 h325 o
 (nm (nid h325) fun i327 =>
 (nm (nwk h325 (40 + 10 * 20 + 0)) fun h328 =>
 (ckO 2 h328 o (20 + 13)
 (ckV2 h328 (some i327)
 (nm (sR h328 o 56 (some i327)) fun h332 =>
 (ckW2 h332 o
 (nm (nid h332) fun i334 =>
 (nm (nwk h332 (40 + 10 * 6 + 0)) fun h335 =>
 (ckA 2 h335 i334 0
 (chk (0 : Int32) (alen h335 i334)
 (nm (tI h335 i334 ((0 : Int32)).toNatClampNeg (-1 : Int32)) fun h339 =>
 (ckA 2 h339 i334 0
 (chk (1 : Int32) (alen h339 i334)
 (nm (tI h339 i334 ((1 : Int32)).toNatClampNeg (-1 : Int32)) fun h342 =>
 (ckA 2 h342 i334 0
 (chk (2 : Int32) (alen h342 i334)
 (nm (tI h342 i334 ((2 : Int32)).toNatClampNeg (-1 : Int32)) fun h345 =>
 (ckA 2 h345 i334 0
 (chk (3 : Int32) (alen h345 i334)
 (nm (tI h345 i334 ((3 : Int32)).toNatClampNeg (-1 : Int32)) fun h348 =>
 (ckA 2 h348 i334 0
 (chk (4 : Int32) (alen h348 i334)
 (nm (tI h348 i334 ((4 : Int32)).toNatClampNeg (-1 : Int32)) fun h351 =>
 (ckA 2 h351 i334 0
 (chk (5 : Int32) (alen h351 i334)
 (nm (tI h351 i334 ((5 : Int32)).toNatClampNeg (-1 : Int32)) fun h354 =>
 (ckO 2 h354 o (20 + 13)
 (ckV2 h354 (some i334)
 (nm (sR h354 o 57 (some i334)) fun h357 =>
 (ckW2 h357 o
 (nm (nid h357) fun i359 =>
 (nm (nwk h357 (40 + 10 * 6 + 0)) fun h360 =>
 (ckO 2 h360 o (20 + 13)
 (ckV2 h360 (some i359)
 (nm (sR h360 o 58 (some i359)) fun h364 =>
 (ckW2 h364 o
 (nm (nid h364) fun i366 =>
 (nm (nwk h364 (40 + 10 * 360 + 3)) fun h367 =>
 (ckO 2 h367 o (20 + 13)
 (ckV2 h367 (some i366)
 (nm (sR h367 o 59 (some i366)) fun h371 =>
 (ckW2 h371 o
 (nm (nid h371) fun i373 =>
 (nm (nwk h371 (40 + 10 * 60 + 3)) fun h374 =>
 (ckO 2 h374 o (20 + 13)
 (ckV2 h374 (some i373)
 (nm (sR h374 o 60 (some i373)) fun h378 =>
 (ckSl2 h378 o 13
 (nm (sK h378 o 14) fun h380 =>
 (some (h380, ()))))))))))))))))))))))))))))))))))))))))))))))))))))))))))))))))))))))))))))))))))))))))))))))))))))))))))))))))))))))))))))))))))))))))))))))))))))))))))))))))))))))))))))))))))))))))))))))))))))))))))))))))))))))))))))))))))))))))))))))))))))))))))))))))))))))))))))))))))))))))))))))))))))))))))))))))))))))))))))))))))))))))))))))))))))))))
set_option maxRecDepth 100000 in
set_option maxHeartbeats 4000000 in
theorem kz_X12_init {ω : XO} (hω : ω.2.2.2.1 = 2) {L : List Nat} {q : Nat → Nat} {h h' : hp} {o : Nat} {r : Unit} (hf : fz_X12_init h o = some (h', r)) : XMn ω yX12_init cX12_init 1 none rm_X12_init L q h [.ref (q o)] (fun _ => none) h' := by
  refine XMn_intro [(0, .ref (q o))] "SignalBlindModel" (by decide) rfl rfl (Nat.le_of_ble_eq_true rfl) (fun κ X R hini => ?_)
  unfold fz_X12_init at hf
  refine x_aload_n X dX12_init_0 0 rfl rfl ?_
  refine x_oinit X (by intro w hw; simp only [List.mem_cons, List.not_mem_nil, or_false] at hw; rcases hw with rfl | rfl | rfl <;> first | exact (mT_5 38 rfl rfl) | exact (mT_1 33 rfl rfl) | exact (mT_1 34 rfl rfl)) (Nat.le_of_ble_eq_true rfl) ⟨Nat.le_of_ble_eq_true rfl, Nat.le_of_ble_eq_true rfl⟩ dX12_init_1 ?_
  refine x_aload_n X dX12_init_4 0 rfl rfl ?_
  refine x_iconst X (v := 0) dX12_init_5 (by decide) ?_
  obtain ⟨b1, hf⟩ := ckO_some hf
  refine x_putGi X (i := o) fl_X12_7_13 fw_13 (sd_of hω b1.1) b1.2 rfl (Or.inl rfl) rfl rfl dX12_init_6 ?_
  obtain ⟨h2, eh2, hf⟩ := nm_some hf
  refine x_nmh eh2 ?_
  refine x_aload_n X dX12_init_9 0 rfl rfl ?_
  refine x_iconst X (v := 0) dX12_init_10 (by decide) ?_
  obtain ⟨b3, hf⟩ := ckO_some hf
  refine x_putGi X (i := o) fl_X12_13_13 fw_13 (sd_of hω b3.1) b3.2 rfl (Or.inl rfl) rfl rfl dX12_init_11 ?_
  obtain ⟨h4, eh4, hf⟩ := nm_some hf
  refine x_nmh eh4 ?_
  refine x_aload_n X dX12_init_14 0 rfl rfl ?_
  refine x_iconst X (v := 0) dX12_init_15 (by decide) ?_
  obtain ⟨b5, hf⟩ := ckO_some hf
  refine x_putGi X (i := o) fl_X12_16_13 fw_13 (sd_of hω b5.1) b5.2 rfl (Or.inl rfl) rfl rfl dX12_init_16 ?_
  obtain ⟨h6, eh6, hf⟩ := nm_some hf
  refine x_nmh eh6 ?_
  refine x_aload_n X dX12_init_19 0 rfl rfl ?_
  refine x_bipush X (v := 8) dX12_init_20 (by decide) ?_
  obtain ⟨b7, hf⟩ := ckW2_some hf
  obtain ⟨i8, ei8, hf⟩ := nm_some hf
  obtain ⟨h9, eh9, hf⟩ := nm_some hf
  refine x_newaI X (N := 8) (mT_1 57 rfl rfl) (by decide) (by decide +kernel) (by decide) (by constructor <;> first | decide +kernel | (simp only [Nat.zero_add]; exact Nat.le_refl _)) dX12_init_22 ei8 eh9 (fun L10 q10 E10 Q10 => ?_)
  rw [← Q10 o (sd_of hω b7.1) b7.2]
  obtain ⟨b11, hf⟩ := ckO_some hf
  obtain ⟨b12, hf⟩ := ckV2_some hf
  refine x_putGr X (i := o) (o := (some i8)) fl_X12_19_13 fw_13 (sd_of hω b11.1) b11.2 rfl (Or.inr ⟨rfl, hini rfl, rfl⟩) (lv_of2 hω b12) rfl rfl rfl dX12_init_24 ?_
  obtain ⟨h13, eh13, hf⟩ := nm_some hf
  refine x_nmh eh13 ?_
  refine x_aload_n X dX12_init_27 0 rfl rfl ?_
  refine x_iconst X (v := 5) dX12_init_28 (by decide) ?_
  obtain ⟨b14, hf⟩ := ckW2_some hf
  obtain ⟨i15, ei15, hf⟩ := nm_some hf
  obtain ⟨h16, eh16, hf⟩ := nm_some hf
  refine x_newaI X (N := 5) (mT_1 57 rfl rfl) (by decide) (by decide +kernel) (by decide) (by constructor <;> first | decide +kernel | (simp only [Nat.zero_add]; exact Nat.le_refl _)) dX12_init_29 ei15 eh16 (fun L17 q17 E17 Q17 => ?_)
  rw [← Q17 o (sd_of hω b14.1) b14.2]
  obtain ⟨b18, hf⟩ := ckO_some hf
  obtain ⟨b19, hf⟩ := ckV2_some hf
  refine x_putGr X (i := o) (o := (some i15)) fl_X12_23_13 fw_13 (sd_of hω b18.1) b18.2 rfl (Or.inr ⟨rfl, hini rfl, rfl⟩) (lv_of2 hω b19) rfl rfl rfl dX12_init_31 ?_
  obtain ⟨h20, eh20, hf⟩ := nm_some hf
  refine x_nmh eh20 ?_
  refine x_aload_n X dX12_init_34 0 rfl rfl ?_
  refine x_iconst X (v := 5) dX12_init_35 (by decide) ?_
  obtain ⟨b21, hf⟩ := ckW2_some hf
  obtain ⟨i22, ei22, hf⟩ := nm_some hf
  obtain ⟨h23, eh23, hf⟩ := nm_some hf
  refine x_newaI X (N := 5) (mT_1 57 rfl rfl) (by decide) (by decide +kernel) (by decide) (by constructor <;> first | decide +kernel | (simp only [Nat.zero_add]; exact Nat.le_refl _)) dX12_init_36 ei22 eh23 (fun L24 q24 E24 Q24 => ?_)
  rw [← Q24 o (sd_of hω b21.1) b21.2]
  obtain ⟨b25, hf⟩ := ckO_some hf
  obtain ⟨b26, hf⟩ := ckV2_some hf
  refine x_putGr X (i := o) (o := (some i22)) fl_X12_26_13 fw_13 (sd_of hω b25.1) b25.2 rfl (Or.inr ⟨rfl, hini rfl, rfl⟩) (lv_of2 hω b26) rfl rfl rfl dX12_init_38 ?_
  obtain ⟨h27, eh27, hf⟩ := nm_some hf
  refine x_nmh eh27 ?_
  refine x_aload_n X dX12_init_41 0 rfl rfl ?_
  refine x_iconst X (v := 5) dX12_init_42 (by decide) ?_
  obtain ⟨b28, hf⟩ := ckW2_some hf
  obtain ⟨i29, ei29, hf⟩ := nm_some hf
  obtain ⟨h30, eh30, hf⟩ := nm_some hf
  refine x_newaI X (N := 5) (mT_1 57 rfl rfl) (by decide) (by decide +kernel) (by decide) (by constructor <;> first | decide +kernel | (simp only [Nat.zero_add]; exact Nat.le_refl _)) dX12_init_43 ei29 eh30 (fun L31 q31 E31 Q31 => ?_)
  rw [← Q31 o (sd_of hω b28.1) b28.2]
  obtain ⟨b32, hf⟩ := ckO_some hf
  obtain ⟨b33, hf⟩ := ckV2_some hf
  refine x_putGr X (i := o) (o := (some i29)) fl_X12_29_13 fw_13 (sd_of hω b32.1) b32.2 rfl (Or.inr ⟨rfl, hini rfl, rfl⟩) (lv_of2 hω b33) rfl rfl rfl dX12_init_45 ?_
  obtain ⟨h34, eh34, hf⟩ := nm_some hf
  refine x_nmh eh34 ?_
  refine x_aload_n X dX12_init_48 0 rfl rfl ?_
  refine x_bipush X (v := 20) dX12_init_49 (by decide) ?_
  obtain ⟨b35, hf⟩ := ckW2_some hf
  obtain ⟨i36, ei36, hf⟩ := nm_some hf
  obtain ⟨h37, eh37, hf⟩ := nm_some hf
  refine x_newaI X (N := 20) (mT_1 57 rfl rfl) (by decide) (by decide +kernel) (by decide) (by constructor <;> first | decide +kernel | (simp only [Nat.zero_add]; exact Nat.le_refl _)) dX12_init_51 ei36 eh37 (fun L38 q38 E38 Q38 => ?_)
  rw [← Q38 o (sd_of hω b35.1) b35.2]
  obtain ⟨b39, hf⟩ := ckO_some hf
  obtain ⟨b40, hf⟩ := ckV2_some hf
  refine x_putGr X (i := o) (o := (some i36)) fl_X12_32_13 fw_13 (sd_of hω b39.1) b39.2 rfl (Or.inr ⟨rfl, hini rfl, rfl⟩) (lv_of2 hω b40) rfl rfl rfl dX12_init_53 ?_
  obtain ⟨h41, eh41, hf⟩ := nm_some hf
  refine x_nmh eh41 ?_
  refine x_aload_n X dX12_init_56 0 rfl rfl ?_
  refine x_iconst X (v := 0) dX12_init_57 (by decide) ?_
  obtain ⟨b42, hf⟩ := ckO_some hf
  refine x_putGi X (i := o) fl_X12_35_13 fw_13 (sd_of hω b42.1) b42.2 rfl (Or.inl rfl) rfl rfl dX12_init_58 ?_
  obtain ⟨h43, eh43, hf⟩ := nm_some hf
  refine x_nmh eh43 ?_
  refine x_aload_n X dX12_init_61 0 rfl rfl ?_
  refine x_iconst X (v := -1) dX12_init_62 (by decide) ?_
  obtain ⟨b44, hf⟩ := ckO_some hf
  refine x_putGi X (i := o) fl_X12_38_13 fw_13 (sd_of hω b44.1) b44.2 rfl (Or.inl rfl) rfl rfl dX12_init_63 ?_
  obtain ⟨h45, eh45, hf⟩ := nm_some hf
  refine x_nmh eh45 ?_
  refine x_aload_n X dX12_init_66 0 rfl rfl ?_
  refine x_iconst X (v := 0) dX12_init_67 (by decide) ?_
  obtain ⟨b46, hf⟩ := ckO_some hf
  refine x_putGi X (i := o) fl_X12_41_13 fw_13 (sd_of hω b46.1) b46.2 rfl (Or.inl rfl) rfl rfl dX12_init_68 ?_
  obtain ⟨h47, eh47, hf⟩ := nm_some hf
  refine x_nmh eh47 ?_
  refine x_aload_n X dX12_init_71 0 rfl rfl ?_
  refine x_iconst X (v := 0) dX12_init_72 (by decide) ?_
  obtain ⟨b48, hf⟩ := ckO_some hf
  refine x_putGi X (i := o) fl_X12_44_13 fw_13 (sd_of hω b48.1) b48.2 rfl (Or.inl rfl) rfl rfl dX12_init_73 ?_
  obtain ⟨h49, eh49, hf⟩ := nm_some hf
  refine x_nmh eh49 ?_
  refine x_aload_n X dX12_init_76 0 rfl rfl ?_
  refine x_iconst X (v := 0) dX12_init_77 (by decide) ?_
  obtain ⟨b50, hf⟩ := ckO_some hf
  refine x_putGi X (i := o) fl_X12_47_13 fw_13 (sd_of hω b50.1) b50.2 rfl (Or.inl rfl) rfl rfl dX12_init_78 ?_
  obtain ⟨h51, eh51, hf⟩ := nm_some hf
  refine x_nmh eh51 ?_
  refine x_aload_n X dX12_init_81 0 rfl rfl ?_
  refine x_bipush X (v := 100) dX12_init_82 (by decide) ?_
  obtain ⟨b52, hf⟩ := ckW2_some hf
  obtain ⟨i53, ei53, hf⟩ := nm_some hf
  obtain ⟨h54, eh54, hf⟩ := nm_some hf
  refine x_newaI X (N := 100) (mT_1 57 rfl rfl) (by decide) (by decide +kernel) (by decide) (by constructor <;> first | decide +kernel | (simp only [Nat.zero_add]; exact Nat.le_refl _)) dX12_init_84 ei53 eh54 (fun L55 q55 E55 Q55 => ?_)
  rw [← Q55 o (sd_of hω b52.1) b52.2]
  obtain ⟨b56, hf⟩ := ckO_some hf
  obtain ⟨b57, hf⟩ := ckV2_some hf
  refine x_putGr X (i := o) (o := (some i53)) fl_X12_50_13 fw_13 (sd_of hω b56.1) b56.2 rfl (Or.inr ⟨rfl, hini rfl, rfl⟩) (lv_of2 hω b57) rfl rfl rfl dX12_init_86 ?_
  obtain ⟨h58, eh58, hf⟩ := nm_some hf
  refine x_nmh eh58 ?_
  refine x_aload_n X dX12_init_89 0 rfl rfl ?_
  refine x_bipush X (v := 6) dX12_init_90 (by decide) ?_
  obtain ⟨b59, hf⟩ := ckW2_some hf
  obtain ⟨i60, ei60, hf⟩ := nm_some hf
  obtain ⟨h61, eh61, hf⟩ := nm_some hf
  refine x_newaI X (N := 6) (mT_1 57 rfl rfl) (by decide) (by decide +kernel) (by decide) (by constructor <;> first | decide +kernel | (simp only [Nat.zero_add]; exact Nat.le_refl _)) dX12_init_92 ei60 eh61 (fun L62 q62 E62 Q62 => ?_)
  rw [← Q62 o (sd_of hω b59.1) b59.2]
  obtain ⟨b63, hf⟩ := ckO_some hf
  obtain ⟨b64, hf⟩ := ckV2_some hf
  refine x_putGr X (i := o) (o := (some i60)) fl_X12_53_13 fw_13 (sd_of hω b63.1) b63.2 rfl (Or.inr ⟨rfl, hini rfl, rfl⟩) (lv_of2 hω b64) rfl rfl rfl dX12_init_94 ?_
  obtain ⟨h65, eh65, hf⟩ := nm_some hf
  refine x_nmh eh65 ?_
  refine x_aload_n X dX12_init_97 0 rfl rfl ?_
  refine x_bipush X (v := 60) dX12_init_98 (by decide) ?_
  obtain ⟨b66, hf⟩ := ckW2_some hf
  obtain ⟨i67, ei67, hf⟩ := nm_some hf
  obtain ⟨h68, eh68, hf⟩ := nm_some hf
  refine x_newaI X (N := 60) (mT_1 57 rfl rfl) (by decide) (by decide +kernel) (by decide) (by constructor <;> first | decide +kernel | (simp only [Nat.zero_add]; exact Nat.le_refl _)) dX12_init_100 ei67 eh68 (fun L69 q69 E69 Q69 => ?_)
  rw [← Q69 o (sd_of hω b66.1) b66.2]
  obtain ⟨b70, hf⟩ := ckO_some hf
  obtain ⟨b71, hf⟩ := ckV2_some hf
  refine x_putGr X (i := o) (o := (some i67)) fl_X12_56_13 fw_13 (sd_of hω b70.1) b70.2 rfl (Or.inr ⟨rfl, hini rfl, rfl⟩) (lv_of2 hω b71) rfl rfl rfl dX12_init_102 ?_
  obtain ⟨h72, eh72, hf⟩ := nm_some hf
  refine x_nmh eh72 ?_
  refine x_aload_n X dX12_init_105 0 rfl rfl ?_
  refine x_bipush X (v := 60) dX12_init_106 (by decide) ?_
  obtain ⟨b73, hf⟩ := ckW2_some hf
  obtain ⟨i74, ei74, hf⟩ := nm_some hf
  obtain ⟨h75, eh75, hf⟩ := nm_some hf
  refine x_newaI X (N := 60) (mT_1 57 rfl rfl) (by decide) (by decide +kernel) (by decide) (by constructor <;> first | decide +kernel | (simp only [Nat.zero_add]; exact Nat.le_refl _)) dX12_init_108 ei74 eh75 (fun L76 q76 E76 Q76 => ?_)
  rw [← Q76 o (sd_of hω b73.1) b73.2]
  obtain ⟨b77, hf⟩ := ckO_some hf
  obtain ⟨b78, hf⟩ := ckV2_some hf
  refine x_putGr X (i := o) (o := (some i74)) fl_X12_59_13 fw_13 (sd_of hω b77.1) b77.2 rfl (Or.inr ⟨rfl, hini rfl, rfl⟩) (lv_of2 hω b78) rfl rfl rfl dX12_init_110 ?_
  obtain ⟨h79, eh79, hf⟩ := nm_some hf
  refine x_nmh eh79 ?_
  refine x_aload_n X dX12_init_113 0 rfl rfl ?_
  refine x_bipush X (v := 60) dX12_init_114 (by decide) ?_
  obtain ⟨b80, hf⟩ := ckW2_some hf
  obtain ⟨i81, ei81, hf⟩ := nm_some hf
  obtain ⟨h82, eh82, hf⟩ := nm_some hf
  refine x_newaI X (N := 60) (mT_1 57 rfl rfl) (by decide) (by decide +kernel) (by decide) (by constructor <;> first | decide +kernel | (simp only [Nat.zero_add]; exact Nat.le_refl _)) dX12_init_116 ei81 eh82 (fun L83 q83 E83 Q83 => ?_)
  rw [← Q83 o (sd_of hω b80.1) b80.2]
  obtain ⟨b84, hf⟩ := ckO_some hf
  obtain ⟨b85, hf⟩ := ckV2_some hf
  refine x_putGr X (i := o) (o := (some i81)) fl_X12_62_13 fw_13 (sd_of hω b84.1) b84.2 rfl (Or.inr ⟨rfl, hini rfl, rfl⟩) (lv_of2 hω b85) rfl rfl rfl dX12_init_118 ?_
  obtain ⟨h86, eh86, hf⟩ := nm_some hf
  refine x_nmh eh86 ?_
  refine x_aload_n X dX12_init_121 0 rfl rfl ?_
  refine x_bipush X (v := 60) dX12_init_122 (by decide) ?_
  obtain ⟨b87, hf⟩ := ckW2_some hf
  obtain ⟨i88, ei88, hf⟩ := nm_some hf
  obtain ⟨h89, eh89, hf⟩ := nm_some hf
  refine x_newaI X (N := 60) (mT_1 57 rfl rfl) (by decide) (by decide +kernel) (by decide) (by constructor <;> first | decide +kernel | (simp only [Nat.zero_add]; exact Nat.le_refl _)) dX12_init_124 ei88 eh89 (fun L90 q90 E90 Q90 => ?_)
  rw [← Q90 o (sd_of hω b87.1) b87.2]
  obtain ⟨b91, hf⟩ := ckO_some hf
  obtain ⟨b92, hf⟩ := ckV2_some hf
  refine x_putGr X (i := o) (o := (some i88)) fl_X12_65_13 fw_13 (sd_of hω b91.1) b91.2 rfl (Or.inr ⟨rfl, hini rfl, rfl⟩) (lv_of2 hω b92) rfl rfl rfl dX12_init_126 ?_
  obtain ⟨h93, eh93, hf⟩ := nm_some hf
  refine x_nmh eh93 ?_
  refine x_aload_n X dX12_init_129 0 rfl rfl ?_
  refine x_sipush X (v := 600) dX12_init_130 (by decide) ?_
  obtain ⟨b94, hf⟩ := ckW2_some hf
  obtain ⟨i95, ei95, hf⟩ := nm_some hf
  obtain ⟨h96, eh96, hf⟩ := nm_some hf
  refine x_newaI X (N := 600) (mT_1 57 rfl rfl) (by decide) (by decide +kernel) (by decide) (by constructor <;> first | decide +kernel | (simp only [Nat.zero_add]; exact Nat.le_refl _)) dX12_init_133 ei95 eh96 (fun L97 q97 E97 Q97 => ?_)
  rw [← Q97 o (sd_of hω b94.1) b94.2]
  obtain ⟨b98, hf⟩ := ckO_some hf
  obtain ⟨b99, hf⟩ := ckV2_some hf
  refine x_putGr X (i := o) (o := (some i95)) fl_X12_68_13 fw_13 (sd_of hω b98.1) b98.2 rfl (Or.inr ⟨rfl, hini rfl, rfl⟩) (lv_of2 hω b99) rfl rfl rfl dX12_init_135 ?_
  obtain ⟨h100, eh100, hf⟩ := nm_some hf
  refine x_nmh eh100 ?_
  refine x_aload_n X dX12_init_138 0 rfl rfl ?_
  refine x_bipush X (v := 101) dX12_init_139 (by decide) ?_
  obtain ⟨b101, hf⟩ := ckW2_some hf
  obtain ⟨i102, ei102, hf⟩ := nm_some hf
  obtain ⟨h103, eh103, hf⟩ := nm_some hf
  refine x_newaI X (N := 101) (mT_1 57 rfl rfl) (by decide) (by decide +kernel) (by decide) (by constructor <;> first | decide +kernel | (simp only [Nat.zero_add]; exact Nat.le_refl _)) dX12_init_141 ei102 eh103 (fun L104 q104 E104 Q104 => ?_)
  rw [← Q104 o (sd_of hω b101.1) b101.2]
  obtain ⟨b105, hf⟩ := ckO_some hf
  obtain ⟨b106, hf⟩ := ckV2_some hf
  refine x_putGr X (i := o) (o := (some i102)) fl_X12_71_13 fw_13 (sd_of hω b105.1) b105.2 rfl (Or.inr ⟨rfl, hini rfl, rfl⟩) (lv_of2 hω b106) rfl rfl rfl dX12_init_143 ?_
  obtain ⟨h107, eh107, hf⟩ := nm_some hf
  refine x_nmh eh107 ?_
  refine x_aload_n X dX12_init_146 0 rfl rfl ?_
  refine x_iconst X (v := 0) dX12_init_147 (by decide) ?_
  obtain ⟨b108, hf⟩ := ckO_some hf
  refine x_putGi X (i := o) fl_X12_74_13 fw_13 (sd_of hω b108.1) b108.2 rfl (Or.inl rfl) rfl rfl dX12_init_148 ?_
  obtain ⟨h109, eh109, hf⟩ := nm_some hf
  refine x_nmh eh109 ?_
  refine x_aload_n X dX12_init_151 0 rfl rfl ?_
  refine x_iconst X (v := 0) dX12_init_152 (by decide) ?_
  obtain ⟨b110, hf⟩ := ckO_some hf
  refine x_putGi X (i := o) fl_X12_77_13 fw_13 (sd_of hω b110.1) b110.2 rfl (Or.inl rfl) rfl rfl dX12_init_153 ?_
  obtain ⟨h111, eh111, hf⟩ := nm_some hf
  refine x_nmh eh111 ?_
  refine x_aload_n X dX12_init_156 0 rfl rfl ?_
  refine x_iconst X (v := 0) dX12_init_157 (by decide) ?_
  obtain ⟨b112, hf⟩ := ckO_some hf
  refine x_putGi X (i := o) fl_X12_80_13 fw_13 (sd_of hω b112.1) b112.2 rfl (Or.inl rfl) rfl rfl dX12_init_158 ?_
  obtain ⟨h113, eh113, hf⟩ := nm_some hf
  refine x_nmh eh113 ?_
  refine x_aload_n X dX12_init_161 0 rfl rfl ?_
  refine x_bipush X (v := 16) dX12_init_162 (by decide) ?_
  obtain ⟨b114, hf⟩ := ckW2_some hf
  obtain ⟨i115, ei115, hf⟩ := nm_some hf
  obtain ⟨h116, eh116, hf⟩ := nm_some hf
  refine x_newaI X (N := 16) (mT_1 57 rfl rfl) (by decide) (by decide +kernel) (by decide) (by constructor <;> first | decide +kernel | (simp only [Nat.zero_add]; exact Nat.le_refl _)) dX12_init_164 ei115 eh116 (fun L117 q117 E117 Q117 => ?_)
  rw [← Q117 o (sd_of hω b114.1) b114.2]
  refine x_dup X dX12_init_166 rfl ?_
  refine x_iconst X (v := 0) dX12_init_167 (by decide) ?_
  refine x_bipush X (v := 111) dX12_init_168 (by decide) ?_
  obtain ⟨b118, hf⟩ := ckA_some hf
  obtain ⟨z119, hf⟩ := chk_some hf
  refine x_iast X (i := i115) (n := (alen h116 i115)) (sd_of hω b118.1) b118.2 z119 dX12_init_170 ?_
  obtain ⟨h120, eh120, hf⟩ := nm_some hf
  refine x_nmh eh120 ?_
  refine x_dup X dX12_init_171 rfl ?_
  refine x_iconst X (v := 1) dX12_init_172 (by decide) ?_
  refine x_bipush X (v := 112) dX12_init_173 (by decide) ?_
  obtain ⟨b121, hf⟩ := ckA_some hf
  obtain ⟨z122, hf⟩ := chk_some hf
  refine x_iast X (i := i115) (n := (alen h120 i115)) (sd_of hω b121.1) b121.2 z122 dX12_init_175 ?_
  obtain ⟨h123, eh123, hf⟩ := nm_some hf
  refine x_nmh eh123 ?_
  refine x_dup X dX12_init_176 rfl ?_
  refine x_iconst X (v := 2) dX12_init_177 (by decide) ?_
  refine x_bipush X (v := 101) dX12_init_178 (by decide) ?_
  obtain ⟨b124, hf⟩ := ckA_some hf
  obtain ⟨z125, hf⟩ := chk_some hf
  refine x_iast X (i := i115) (n := (alen h123 i115)) (sd_of hω b124.1) b124.2 z125 dX12_init_180 ?_
  obtain ⟨h126, eh126, hf⟩ := nm_some hf
  refine x_nmh eh126 ?_
  refine x_dup X dX12_init_181 rfl ?_
  refine x_iconst X (v := 3) dX12_init_182 (by decide) ?_
  refine x_bipush X (v := 110) dX12_init_183 (by decide) ?_
  obtain ⟨b127, hf⟩ := ckA_some hf
  obtain ⟨z128, hf⟩ := chk_some hf
  refine x_iast X (i := i115) (n := (alen h126 i115)) (sd_of hω b127.1) b127.2 z128 dX12_init_185 ?_
  obtain ⟨h129, eh129, hf⟩ := nm_some hf
  refine x_nmh eh129 ?_
  refine x_dup X dX12_init_186 rfl ?_
  refine x_iconst X (v := 4) dX12_init_187 (by decide) ?_
  refine x_bipush X (v := 115) dX12_init_188 (by decide) ?_
  obtain ⟨b130, hf⟩ := ckA_some hf
  obtain ⟨z131, hf⟩ := chk_some hf
  refine x_iast X (i := i115) (n := (alen h129 i115)) (sd_of hω b130.1) b130.2 z131 dX12_init_190 ?_
  obtain ⟨h132, eh132, hf⟩ := nm_some hf
  refine x_nmh eh132 ?_
  refine x_dup X dX12_init_191 rfl ?_
  refine x_iconst X (v := 5) dX12_init_192 (by decide) ?_
  refine x_bipush X (v := 104) dX12_init_193 (by decide) ?_
  obtain ⟨b133, hf⟩ := ckA_some hf
  obtain ⟨z134, hf⟩ := chk_some hf
  refine x_iast X (i := i115) (n := (alen h132 i115)) (sd_of hω b133.1) b133.2 z134 dX12_init_195 ?_
  obtain ⟨h135, eh135, hf⟩ := nm_some hf
  refine x_nmh eh135 ?_
  refine x_dup X dX12_init_196 rfl ?_
  refine x_bipush X (v := 6) dX12_init_197 (by decide) ?_
  refine x_bipush X (v := 117) dX12_init_199 (by decide) ?_
  obtain ⟨b136, hf⟩ := ckA_some hf
  obtain ⟨z137, hf⟩ := chk_some hf
  refine x_iast X (i := i115) (n := (alen h135 i115)) (sd_of hω b136.1) b136.2 z137 dX12_init_201 ?_
  obtain ⟨h138, eh138, hf⟩ := nm_some hf
  refine x_nmh eh138 ?_
  refine x_dup X dX12_init_202 rfl ?_
  refine x_bipush X (v := 7) dX12_init_203 (by decide) ?_
  refine x_bipush X (v := 116) dX12_init_205 (by decide) ?_
  obtain ⟨b139, hf⟩ := ckA_some hf
  obtain ⟨z140, hf⟩ := chk_some hf
  refine x_iast X (i := i115) (n := (alen h138 i115)) (sd_of hω b139.1) b139.2 z140 dX12_init_207 ?_
  obtain ⟨h141, eh141, hf⟩ := nm_some hf
  refine x_nmh eh141 ?_
  refine x_dup X dX12_init_208 rfl ?_
  refine x_bipush X (v := 8) dX12_init_209 (by decide) ?_
  refine x_bipush X (v := 116) dX12_init_211 (by decide) ?_
  obtain ⟨b142, hf⟩ := ckA_some hf
  obtain ⟨z143, hf⟩ := chk_some hf
  refine x_iast X (i := i115) (n := (alen h141 i115)) (sd_of hω b142.1) b142.2 z143 dX12_init_213 ?_
  obtain ⟨h144, eh144, hf⟩ := nm_some hf
  refine x_nmh eh144 ?_
  refine x_dup X dX12_init_214 rfl ?_
  refine x_bipush X (v := 9) dX12_init_215 (by decide) ?_
  refine x_bipush X (v := 117) dX12_init_217 (by decide) ?_
  obtain ⟨b145, hf⟩ := ckA_some hf
  obtain ⟨z146, hf⟩ := chk_some hf
  refine x_iast X (i := i115) (n := (alen h144 i115)) (sd_of hω b145.1) b145.2 z146 dX12_init_219 ?_
  obtain ⟨h147, eh147, hf⟩ := nm_some hf
  refine x_nmh eh147 ?_
  refine x_dup X dX12_init_220 rfl ?_
  refine x_bipush X (v := 10) dX12_init_221 (by decide) ?_
  refine x_bipush X (v := 114) dX12_init_223 (by decide) ?_
  obtain ⟨b148, hf⟩ := ckA_some hf
  obtain ⟨z149, hf⟩ := chk_some hf
  refine x_iast X (i := i115) (n := (alen h147 i115)) (sd_of hω b148.1) b148.2 z149 dX12_init_225 ?_
  obtain ⟨h150, eh150, hf⟩ := nm_some hf
  refine x_nmh eh150 ?_
  refine x_dup X dX12_init_226 rfl ?_
  refine x_bipush X (v := 11) dX12_init_227 (by decide) ?_
  refine x_bipush X (v := 110) dX12_init_229 (by decide) ?_
  obtain ⟨b151, hf⟩ := ckA_some hf
  obtain ⟨z152, hf⟩ := chk_some hf
  refine x_iast X (i := i115) (n := (alen h150 i115)) (sd_of hω b151.1) b151.2 z152 dX12_init_231 ?_
  obtain ⟨h153, eh153, hf⟩ := nm_some hf
  refine x_nmh eh153 ?_
  refine x_dup X dX12_init_232 rfl ?_
  refine x_bipush X (v := 12) dX12_init_233 (by decide) ?_
  refine x_bipush X (v := 110) dX12_init_235 (by decide) ?_
  obtain ⟨b154, hf⟩ := ckA_some hf
  obtain ⟨z155, hf⟩ := chk_some hf
  refine x_iast X (i := i115) (n := (alen h153 i115)) (sd_of hω b154.1) b154.2 z155 dX12_init_237 ?_
  obtain ⟨h156, eh156, hf⟩ := nm_some hf
  refine x_nmh eh156 ?_
  refine x_dup X dX12_init_238 rfl ?_
  refine x_bipush X (v := 13) dX12_init_239 (by decide) ?_
  refine x_bipush X (v := 101) dX12_init_241 (by decide) ?_
  obtain ⟨b157, hf⟩ := ckA_some hf
  obtain ⟨z158, hf⟩ := chk_some hf
  refine x_iast X (i := i115) (n := (alen h156 i115)) (sd_of hω b157.1) b157.2 z158 dX12_init_243 ?_
  obtain ⟨h159, eh159, hf⟩ := nm_some hf
  refine x_nmh eh159 ?_
  refine x_dup X dX12_init_244 rfl ?_
  refine x_bipush X (v := 14) dX12_init_245 (by decide) ?_
  refine x_bipush X (v := 97) dX12_init_247 (by decide) ?_
  obtain ⟨b160, hf⟩ := ckA_some hf
  obtain ⟨z161, hf⟩ := chk_some hf
  refine x_iast X (i := i115) (n := (alen h159 i115)) (sd_of hω b160.1) b160.2 z161 dX12_init_249 ?_
  obtain ⟨h162, eh162, hf⟩ := nm_some hf
  refine x_nmh eh162 ?_
  refine x_dup X dX12_init_250 rfl ?_
  refine x_bipush X (v := 15) dX12_init_251 (by decide) ?_
  refine x_bipush X (v := 114) dX12_init_253 (by decide) ?_
  obtain ⟨b163, hf⟩ := ckA_some hf
  obtain ⟨z164, hf⟩ := chk_some hf
  refine x_iast X (i := i115) (n := (alen h162 i115)) (sd_of hω b163.1) b163.2 z164 dX12_init_255 ?_
  obtain ⟨h165, eh165, hf⟩ := nm_some hf
  refine x_nmh eh165 ?_
  obtain ⟨b166, hf⟩ := ckO_some hf
  obtain ⟨b167, hf⟩ := ckV2_some hf
  refine x_putGr X (i := o) (o := (some i115)) fl_X12_83_13 fw_13 (sd_of hω b166.1) b166.2 rfl (Or.inr ⟨rfl, hini rfl, rfl⟩) (lv_of2 hω b167) rfl rfl rfl dX12_init_256 ?_
  obtain ⟨h168, eh168, hf⟩ := nm_some hf
  refine x_nmh eh168 ?_
  refine x_aload_n X dX12_init_259 0 rfl rfl ?_
  refine x_bipush X (v := 100) dX12_init_260 (by decide) ?_
  obtain ⟨b169, hf⟩ := ckW2_some hf
  obtain ⟨i170, ei170, hf⟩ := nm_some hf
  obtain ⟨h171, eh171, hf⟩ := nm_some hf
  refine x_newaZ X (N := 100) (mT_5 223 rfl rfl) (by decide) (by decide +kernel) (by decide) (by constructor <;> first | decide +kernel | (simp only [Nat.zero_add]; exact Nat.le_refl _)) dX12_init_262 ei170 eh171 (fun L172 q172 E172 Q172 => ?_)
  rw [← Q172 o (sd_of hω b169.1) b169.2]
  obtain ⟨b173, hf⟩ := ckO_some hf
  obtain ⟨b174, hf⟩ := ckV2_some hf
  refine x_putGr X (i := o) (o := (some i170)) fl_X12_86_13 fw_13 (sd_of hω b173.1) b173.2 rfl (Or.inr ⟨rfl, hini rfl, rfl⟩) (lv_of2 hω b174) rfl rfl rfl dX12_init_264 ?_
  obtain ⟨h175, eh175, hf⟩ := nm_some hf
  refine x_nmh eh175 ?_
  refine x_aload_n X dX12_init_267 0 rfl rfl ?_
  refine x_sipush X (v := 1024) dX12_init_268 (by decide) ?_
  obtain ⟨b176, hf⟩ := ckW2_some hf
  obtain ⟨i177, ei177, hf⟩ := nm_some hf
  obtain ⟨h178, eh178, hf⟩ := nm_some hf
  refine x_newaZ X (N := 1024) (mT_5 223 rfl rfl) (by decide) (by decide +kernel) (by decide) (by constructor <;> first | decide +kernel | (simp only [Nat.zero_add]; exact Nat.le_refl _)) dX12_init_271 ei177 eh178 (fun L179 q179 E179 Q179 => ?_)
  rw [← Q179 o (sd_of hω b176.1) b176.2]
  obtain ⟨b180, hf⟩ := ckO_some hf
  obtain ⟨b181, hf⟩ := ckV2_some hf
  refine x_putGr X (i := o) (o := (some i177)) fl_X12_90_13 fw_13 (sd_of hω b180.1) b180.2 rfl (Or.inr ⟨rfl, hini rfl, rfl⟩) (lv_of2 hω b181) rfl rfl rfl dX12_init_273 ?_
  obtain ⟨h182, eh182, hf⟩ := nm_some hf
  refine x_nmh eh182 ?_
  refine x_aload_n X dX12_init_276 0 rfl rfl ?_
  refine x_iconst X (v := 5) dX12_init_277 (by decide) ?_
  obtain ⟨b183, hf⟩ := ckW2_some hf
  obtain ⟨i184, ei184, hf⟩ := nm_some hf
  obtain ⟨h185, eh185, hf⟩ := nm_some hf
  refine x_newaI X (N := 5) (mT_1 57 rfl rfl) (by decide) (by decide +kernel) (by decide) (by constructor <;> first | decide +kernel | (simp only [Nat.zero_add]; exact Nat.le_refl _)) dX12_init_278 ei184 eh185 (fun L186 q186 E186 Q186 => ?_)
  rw [← Q186 o (sd_of hω b183.1) b183.2]
  obtain ⟨b187, hf⟩ := ckO_some hf
  obtain ⟨b188, hf⟩ := ckV2_some hf
  refine x_putGr X (i := o) (o := (some i184)) fl_X12_93_13 fw_13 (sd_of hω b187.1) b187.2 rfl (Or.inr ⟨rfl, hini rfl, rfl⟩) (lv_of2 hω b188) rfl rfl rfl dX12_init_280 ?_
  obtain ⟨h189, eh189, hf⟩ := nm_some hf
  refine x_nmh eh189 ?_
  refine x_aload_n X dX12_init_283 0 rfl rfl ?_
  refine x_iconst X (v := 5) dX12_init_284 (by decide) ?_
  obtain ⟨b190, hf⟩ := ckW2_some hf
  obtain ⟨i191, ei191, hf⟩ := nm_some hf
  obtain ⟨h192, eh192, hf⟩ := nm_some hf
  refine x_newaI X (N := 5) (mT_1 57 rfl rfl) (by decide) (by decide +kernel) (by decide) (by constructor <;> first | decide +kernel | (simp only [Nat.zero_add]; exact Nat.le_refl _)) dX12_init_285 ei191 eh192 (fun L193 q193 E193 Q193 => ?_)
  rw [← Q193 o (sd_of hω b190.1) b190.2]
  obtain ⟨b194, hf⟩ := ckO_some hf
  obtain ⟨b195, hf⟩ := ckV2_some hf
  refine x_putGr X (i := o) (o := (some i191)) fl_X12_96_13 fw_13 (sd_of hω b194.1) b194.2 rfl (Or.inr ⟨rfl, hini rfl, rfl⟩) (lv_of2 hω b195) rfl rfl rfl dX12_init_287 ?_
  obtain ⟨h196, eh196, hf⟩ := nm_some hf
  refine x_nmh eh196 ?_
  refine x_aload_n X dX12_init_290 0 rfl rfl ?_
  refine x_iconst X (v := 0) dX12_init_291 (by decide) ?_
  obtain ⟨b197, hf⟩ := ckO_some hf
  refine x_putGi X (i := o) fl_X12_99_13 fw_13 (sd_of hω b197.1) b197.2 rfl (Or.inl rfl) rfl rfl dX12_init_292 ?_
  obtain ⟨h198, eh198, hf⟩ := nm_some hf
  refine x_nmh eh198 ?_
  refine x_aload_n X dX12_init_295 0 rfl rfl ?_
  refine x_iconst X (v := 5) dX12_init_296 (by decide) ?_
  obtain ⟨b199, hf⟩ := ckW2_some hf
  obtain ⟨i200, ei200, hf⟩ := nm_some hf
  obtain ⟨h201, eh201, hf⟩ := nm_some hf
  refine x_newaI X (N := 5) (mT_1 57 rfl rfl) (by decide) (by decide +kernel) (by decide) (by constructor <;> first | decide +kernel | (simp only [Nat.zero_add]; exact Nat.le_refl _)) dX12_init_297 ei200 eh201 (fun L202 q202 E202 Q202 => ?_)
  rw [← Q202 o (sd_of hω b199.1) b199.2]
  obtain ⟨b203, hf⟩ := ckO_some hf
  obtain ⟨b204, hf⟩ := ckV2_some hf
  refine x_putGr X (i := o) (o := (some i200)) fl_X12_102_13 fw_13 (sd_of hω b203.1) b203.2 rfl (Or.inr ⟨rfl, hini rfl, rfl⟩) (lv_of2 hω b204) rfl rfl rfl dX12_init_299 ?_
  obtain ⟨h205, eh205, hf⟩ := nm_some hf
  refine x_nmh eh205 ?_
  refine x_aload_n X dX12_init_302 0 rfl rfl ?_
  refine x_iconst X (v := 5) dX12_init_303 (by decide) ?_
  obtain ⟨b206, hf⟩ := ckW2_some hf
  obtain ⟨i207, ei207, hf⟩ := nm_some hf
  obtain ⟨h208, eh208, hf⟩ := nm_some hf
  refine x_newaI X (N := 5) (mT_1 57 rfl rfl) (by decide) (by decide +kernel) (by decide) (by constructor <;> first | decide +kernel | (simp only [Nat.zero_add]; exact Nat.le_refl _)) dX12_init_304 ei207 eh208 (fun L209 q209 E209 Q209 => ?_)
  rw [← Q209 o (sd_of hω b206.1) b206.2]
  obtain ⟨b210, hf⟩ := ckO_some hf
  obtain ⟨b211, hf⟩ := ckV2_some hf
  refine x_putGr X (i := o) (o := (some i207)) fl_X12_105_13 fw_13 (sd_of hω b210.1) b210.2 rfl (Or.inr ⟨rfl, hini rfl, rfl⟩) (lv_of2 hω b211) rfl rfl rfl dX12_init_306 ?_
  obtain ⟨h212, eh212, hf⟩ := nm_some hf
  refine x_nmh eh212 ?_
  refine x_aload_n X dX12_init_309 0 rfl rfl ?_
  refine x_iconst X (v := 0) dX12_init_310 (by decide) ?_
  obtain ⟨b213, hf⟩ := ckO_some hf
  refine x_putGi X (i := o) fl_X12_108_13 fw_13 (sd_of hω b213.1) b213.2 rfl (Or.inl rfl) rfl rfl dX12_init_311 ?_
  obtain ⟨h214, eh214, hf⟩ := nm_some hf
  refine x_nmh eh214 ?_
  refine x_aload_n X dX12_init_314 0 rfl rfl ?_
  refine x_iconst X (v := 0) dX12_init_315 (by decide) ?_
  obtain ⟨b215, hf⟩ := ckO_some hf
  refine x_putGi X (i := o) fl_X12_111_13 fw_13 (sd_of hω b215.1) b215.2 rfl (Or.inl rfl) rfl rfl dX12_init_316 ?_
  obtain ⟨h216, eh216, hf⟩ := nm_some hf
  refine x_nmh eh216 ?_
  refine x_aload_n X dX12_init_319 0 rfl rfl ?_
  refine x_bipush X (v := 8) dX12_init_320 (by decide) ?_
  obtain ⟨b217, hf⟩ := ckW2_some hf
  obtain ⟨i218, ei218, hf⟩ := nm_some hf
  obtain ⟨h219, eh219, hf⟩ := nm_some hf
  refine x_newaI X (N := 8) (mT_1 57 rfl rfl) (by decide) (by decide +kernel) (by decide) (by constructor <;> first | decide +kernel | (simp only [Nat.zero_add]; exact Nat.le_refl _)) dX12_init_322 ei218 eh219 (fun L220 q220 E220 Q220 => ?_)
  rw [← Q220 o (sd_of hω b217.1) b217.2]
  obtain ⟨b221, hf⟩ := ckO_some hf
  obtain ⟨b222, hf⟩ := ckV2_some hf
  refine x_putGr X (i := o) (o := (some i218)) fl_X12_114_13 fw_13 (sd_of hω b221.1) b221.2 rfl (Or.inr ⟨rfl, hini rfl, rfl⟩) (lv_of2 hω b222) rfl rfl rfl dX12_init_324 ?_
  obtain ⟨h223, eh223, hf⟩ := nm_some hf
  refine x_nmh eh223 ?_
  refine x_aload_n X dX12_init_327 0 rfl rfl ?_
  refine x_bipush X (v := 8) dX12_init_328 (by decide) ?_
  obtain ⟨b224, hf⟩ := ckW2_some hf
  obtain ⟨i225, ei225, hf⟩ := nm_some hf
  obtain ⟨h226, eh226, hf⟩ := nm_some hf
  refine x_newaI X (N := 8) (mT_1 57 rfl rfl) (by decide) (by decide +kernel) (by decide) (by constructor <;> first | decide +kernel | (simp only [Nat.zero_add]; exact Nat.le_refl _)) dX12_init_330 ei225 eh226 (fun L227 q227 E227 Q227 => ?_)
  rw [← Q227 o (sd_of hω b224.1) b224.2]
  obtain ⟨b228, hf⟩ := ckO_some hf
  obtain ⟨b229, hf⟩ := ckV2_some hf
  refine x_putGr X (i := o) (o := (some i225)) fl_X12_117_13 fw_13 (sd_of hω b228.1) b228.2 rfl (Or.inr ⟨rfl, hini rfl, rfl⟩) (lv_of2 hω b229) rfl rfl rfl dX12_init_332 ?_
  obtain ⟨h230, eh230, hf⟩ := nm_some hf
  refine x_nmh eh230 ?_
  refine x_aload_n X dX12_init_335 0 rfl rfl ?_
  refine x_bipush X (v := 8) dX12_init_336 (by decide) ?_
  obtain ⟨b231, hf⟩ := ckW2_some hf
  obtain ⟨i232, ei232, hf⟩ := nm_some hf
  obtain ⟨h233, eh233, hf⟩ := nm_some hf
  refine x_newaI X (N := 8) (mT_1 57 rfl rfl) (by decide) (by decide +kernel) (by decide) (by constructor <;> first | decide +kernel | (simp only [Nat.zero_add]; exact Nat.le_refl _)) dX12_init_338 ei232 eh233 (fun L234 q234 E234 Q234 => ?_)
  rw [← Q234 o (sd_of hω b231.1) b231.2]
  obtain ⟨b235, hf⟩ := ckO_some hf
  obtain ⟨b236, hf⟩ := ckV2_some hf
  refine x_putGr X (i := o) (o := (some i232)) fl_X12_120_13 fw_13 (sd_of hω b235.1) b235.2 rfl (Or.inr ⟨rfl, hini rfl, rfl⟩) (lv_of2 hω b236) rfl rfl rfl dX12_init_340 ?_
  obtain ⟨h237, eh237, hf⟩ := nm_some hf
  refine x_nmh eh237 ?_
  refine x_aload_n X dX12_init_343 0 rfl rfl ?_
  refine x_iconst X (v := 0) dX12_init_344 (by decide) ?_
  obtain ⟨b238, hf⟩ := ckO_some hf
  refine x_putGi X (i := o) fl_X12_123_13 fw_13 (sd_of hω b238.1) b238.2 rfl (Or.inl rfl) rfl rfl dX12_init_345 ?_
  obtain ⟨h239, eh239, hf⟩ := nm_some hf
  refine x_nmh eh239 ?_
  refine x_aload_n X dX12_init_348 0 rfl rfl ?_
  refine x_iconst X (v := -1) dX12_init_349 (by decide) ?_
  obtain ⟨b240, hf⟩ := ckO_some hf
  refine x_putGi X (i := o) fl_X12_127_13 fw_13 (sd_of hω b240.1) b240.2 rfl (Or.inl rfl) rfl rfl dX12_init_350 ?_
  obtain ⟨h241, eh241, hf⟩ := nm_some hf
  refine x_nmh eh241 ?_
  refine x_aload_n X dX12_init_353 0 rfl rfl ?_
  refine x_iconst X (v := 0) dX12_init_354 (by decide) ?_
  obtain ⟨b242, hf⟩ := ckO_some hf
  refine x_putGi X (i := o) fl_X12_130_13 fw_13 (sd_of hω b242.1) b242.2 rfl (Or.inl rfl) rfl rfl dX12_init_355 ?_
  obtain ⟨h243, eh243, hf⟩ := nm_some hf
  refine x_nmh eh243 ?_
  refine x_aload_n X dX12_init_358 0 rfl rfl ?_
  refine x_iconst X (v := 0) dX12_init_359 (by decide) ?_
  obtain ⟨b244, hf⟩ := ckO_some hf
  refine x_putGi X (i := o) fl_X12_133_13 fw_13 (sd_of hω b244.1) b244.2 rfl (Or.inl rfl) rfl rfl dX12_init_360 ?_
  obtain ⟨h245, eh245, hf⟩ := nm_some hf
  refine x_nmh eh245 ?_
  refine x_aload_n X dX12_init_363 0 rfl rfl ?_
  refine x_iconst X (v := 0) dX12_init_364 (by decide) ?_
  obtain ⟨b246, hf⟩ := ckO_some hf
  refine x_putGi X (i := o) fl_X12_136_13 fw_13 (sd_of hω b246.1) b246.2 rfl (Or.inl rfl) rfl rfl dX12_init_365 ?_
  obtain ⟨h247, eh247, hf⟩ := nm_some hf
  refine x_nmh eh247 ?_
  refine x_aload_n X dX12_init_368 0 rfl rfl ?_
  refine x_iconst X (v := 0) dX12_init_369 (by decide) ?_
  obtain ⟨b248, hf⟩ := ckO_some hf
  refine x_putGi X (i := o) fl_X12_139_13 fw_13 (sd_of hω b248.1) b248.2 rfl (Or.inl rfl) rfl rfl dX12_init_370 ?_
  obtain ⟨h249, eh249, hf⟩ := nm_some hf
  refine x_nmh eh249 ?_
  refine x_aload_n X dX12_init_373 0 rfl rfl ?_
  refine x_iconst X (v := 0) dX12_init_374 (by decide) ?_
  obtain ⟨b250, hf⟩ := ckO_some hf
  refine x_putGi X (i := o) fl_X12_142_13 fw_13 (sd_of hω b250.1) b250.2 rfl (Or.inl rfl) rfl rfl dX12_init_375 ?_
  obtain ⟨h251, eh251, hf⟩ := nm_some hf
  refine x_nmh eh251 ?_
  refine x_aload_n X dX12_init_378 0 rfl rfl ?_
  refine x_iconst X (v := 0) dX12_init_379 (by decide) ?_
  obtain ⟨b252, hf⟩ := ckO_some hf
  refine x_putGi X (i := o) fl_X12_145_13 fw_13 (sd_of hω b252.1) b252.2 rfl (Or.inl rfl) rfl rfl dX12_init_380 ?_
  obtain ⟨h253, eh253, hf⟩ := nm_some hf
  refine x_nmh eh253 ?_
  refine x_aload_n X dX12_init_383 0 rfl rfl ?_
  refine x_bipush X (v := 8) dX12_init_384 (by decide) ?_
  obtain ⟨b254, hf⟩ := ckW2_some hf
  obtain ⟨i255, ei255, hf⟩ := nm_some hf
  obtain ⟨h256, eh256, hf⟩ := nm_some hf
  refine x_newaI X (N := 8) (mT_1 57 rfl rfl) (by decide) (by decide +kernel) (by decide) (by constructor <;> first | decide +kernel | (simp only [Nat.zero_add]; exact Nat.le_refl _)) dX12_init_386 ei255 eh256 (fun L257 q257 E257 Q257 => ?_)
  rw [← Q257 o (sd_of hω b254.1) b254.2]
  obtain ⟨b258, hf⟩ := ckO_some hf
  obtain ⟨b259, hf⟩ := ckV2_some hf
  refine x_putGr X (i := o) (o := (some i255)) fl_X12_148_13 fw_13 (sd_of hω b258.1) b258.2 rfl (Or.inr ⟨rfl, hini rfl, rfl⟩) (lv_of2 hω b259) rfl rfl rfl dX12_init_388 ?_
  obtain ⟨h260, eh260, hf⟩ := nm_some hf
  refine x_nmh eh260 ?_
  refine x_aload_n X dX12_init_391 0 rfl rfl ?_
  refine x_iconst X (v := 5) dX12_init_392 (by decide) ?_
  obtain ⟨b261, hf⟩ := ckW2_some hf
  obtain ⟨i262, ei262, hf⟩ := nm_some hf
  obtain ⟨h263, eh263, hf⟩ := nm_some hf
  refine x_newaI X (N := 5) (mT_1 57 rfl rfl) (by decide) (by decide +kernel) (by decide) (by constructor <;> first | decide +kernel | (simp only [Nat.zero_add]; exact Nat.le_refl _)) dX12_init_393 ei262 eh263 (fun L264 q264 E264 Q264 => ?_)
  rw [← Q264 o (sd_of hω b261.1) b261.2]
  obtain ⟨b265, hf⟩ := ckO_some hf
  obtain ⟨b266, hf⟩ := ckV2_some hf
  refine x_putGr X (i := o) (o := (some i262)) fl_X12_151_13 fw_13 (sd_of hω b265.1) b265.2 rfl (Or.inr ⟨rfl, hini rfl, rfl⟩) (lv_of2 hω b266) rfl rfl rfl dX12_init_395 ?_
  obtain ⟨h267, eh267, hf⟩ := nm_some hf
  refine x_nmh eh267 ?_
  refine x_aload_n X dX12_init_398 0 rfl rfl ?_
  refine x_iconst X (v := 5) dX12_init_399 (by decide) ?_
  obtain ⟨b268, hf⟩ := ckW2_some hf
  obtain ⟨i269, ei269, hf⟩ := nm_some hf
  obtain ⟨h270, eh270, hf⟩ := nm_some hf
  refine x_newaI X (N := 5) (mT_1 57 rfl rfl) (by decide) (by decide +kernel) (by decide) (by constructor <;> first | decide +kernel | (simp only [Nat.zero_add]; exact Nat.le_refl _)) dX12_init_400 ei269 eh270 (fun L271 q271 E271 Q271 => ?_)
  rw [← Q271 o (sd_of hω b268.1) b268.2]
  obtain ⟨b272, hf⟩ := ckO_some hf
  obtain ⟨b273, hf⟩ := ckV2_some hf
  refine x_putGr X (i := o) (o := (some i269)) fl_X12_154_13 fw_13 (sd_of hω b272.1) b272.2 rfl (Or.inr ⟨rfl, hini rfl, rfl⟩) (lv_of2 hω b273) rfl rfl rfl dX12_init_402 ?_
  obtain ⟨h274, eh274, hf⟩ := nm_some hf
  refine x_nmh eh274 ?_
  refine x_aload_n X dX12_init_405 0 rfl rfl ?_
  refine x_iconst X (v := 5) dX12_init_406 (by decide) ?_
  obtain ⟨b275, hf⟩ := ckW2_some hf
  obtain ⟨i276, ei276, hf⟩ := nm_some hf
  obtain ⟨h277, eh277, hf⟩ := nm_some hf
  refine x_newaI X (N := 5) (mT_1 57 rfl rfl) (by decide) (by decide +kernel) (by decide) (by constructor <;> first | decide +kernel | (simp only [Nat.zero_add]; exact Nat.le_refl _)) dX12_init_407 ei276 eh277 (fun L278 q278 E278 Q278 => ?_)
  rw [← Q278 o (sd_of hω b275.1) b275.2]
  obtain ⟨b279, hf⟩ := ckO_some hf
  obtain ⟨b280, hf⟩ := ckV2_some hf
  refine x_putGr X (i := o) (o := (some i276)) fl_X12_157_13 fw_13 (sd_of hω b279.1) b279.2 rfl (Or.inr ⟨rfl, hini rfl, rfl⟩) (lv_of2 hω b280) rfl rfl rfl dX12_init_409 ?_
  obtain ⟨h281, eh281, hf⟩ := nm_some hf
  refine x_nmh eh281 ?_
  refine x_aload_n X dX12_init_412 0 rfl rfl ?_
  refine x_bipush X (v := 20) dX12_init_413 (by decide) ?_
  obtain ⟨b282, hf⟩ := ckW2_some hf
  obtain ⟨i283, ei283, hf⟩ := nm_some hf
  obtain ⟨h284, eh284, hf⟩ := nm_some hf
  refine x_newaI X (N := 20) (mT_1 57 rfl rfl) (by decide) (by decide +kernel) (by decide) (by constructor <;> first | decide +kernel | (simp only [Nat.zero_add]; exact Nat.le_refl _)) dX12_init_415 ei283 eh284 (fun L285 q285 E285 Q285 => ?_)
  rw [← Q285 o (sd_of hω b282.1) b282.2]
  obtain ⟨b286, hf⟩ := ckO_some hf
  obtain ⟨b287, hf⟩ := ckV2_some hf
  refine x_putGr X (i := o) (o := (some i283)) fl_X12_160_13 fw_13 (sd_of hω b286.1) b286.2 rfl (Or.inr ⟨rfl, hini rfl, rfl⟩) (lv_of2 hω b287) rfl rfl rfl dX12_init_417 ?_
  obtain ⟨h288, eh288, hf⟩ := nm_some hf
  refine x_nmh eh288 ?_
  refine x_aload_n X dX12_init_420 0 rfl rfl ?_
  refine x_iconst X (v := 5) dX12_init_421 (by decide) ?_
  obtain ⟨b289, hf⟩ := ckW2_some hf
  obtain ⟨i290, ei290, hf⟩ := nm_some hf
  obtain ⟨h291, eh291, hf⟩ := nm_some hf
  refine x_newaI X (N := 5) (mT_1 57 rfl rfl) (by decide) (by decide +kernel) (by decide) (by constructor <;> first | decide +kernel | (simp only [Nat.zero_add]; exact Nat.le_refl _)) dX12_init_422 ei290 eh291 (fun L292 q292 E292 Q292 => ?_)
  rw [← Q292 o (sd_of hω b289.1) b289.2]
  obtain ⟨b293, hf⟩ := ckO_some hf
  obtain ⟨b294, hf⟩ := ckV2_some hf
  refine x_putGr X (i := o) (o := (some i290)) fl_X12_163_13 fw_13 (sd_of hω b293.1) b293.2 rfl (Or.inr ⟨rfl, hini rfl, rfl⟩) (lv_of2 hω b294) rfl rfl rfl dX12_init_424 ?_
  obtain ⟨h295, eh295, hf⟩ := nm_some hf
  refine x_nmh eh295 ?_
  refine x_aload_n X dX12_init_427 0 rfl rfl ?_
  refine x_iconst X (v := 5) dX12_init_428 (by decide) ?_
  obtain ⟨b296, hf⟩ := ckW2_some hf
  obtain ⟨i297, ei297, hf⟩ := nm_some hf
  obtain ⟨h298, eh298, hf⟩ := nm_some hf
  refine x_newaI X (N := 5) (mT_1 57 rfl rfl) (by decide) (by decide +kernel) (by decide) (by constructor <;> first | decide +kernel | (simp only [Nat.zero_add]; exact Nat.le_refl _)) dX12_init_429 ei297 eh298 (fun L299 q299 E299 Q299 => ?_)
  rw [← Q299 o (sd_of hω b296.1) b296.2]
  obtain ⟨b300, hf⟩ := ckO_some hf
  obtain ⟨b301, hf⟩ := ckV2_some hf
  refine x_putGr X (i := o) (o := (some i297)) fl_X12_166_13 fw_13 (sd_of hω b300.1) b300.2 rfl (Or.inr ⟨rfl, hini rfl, rfl⟩) (lv_of2 hω b301) rfl rfl rfl dX12_init_431 ?_
  obtain ⟨h302, eh302, hf⟩ := nm_some hf
  refine x_nmh eh302 ?_
  refine x_aload_n X dX12_init_434 0 rfl rfl ?_
  refine x_bipush X (v := 8) dX12_init_435 (by decide) ?_
  obtain ⟨b303, hf⟩ := ckW2_some hf
  obtain ⟨i304, ei304, hf⟩ := nm_some hf
  obtain ⟨h305, eh305, hf⟩ := nm_some hf
  refine x_newaI X (N := 8) (mT_1 57 rfl rfl) (by decide) (by decide +kernel) (by decide) (by constructor <;> first | decide +kernel | (simp only [Nat.zero_add]; exact Nat.le_refl _)) dX12_init_437 ei304 eh305 (fun L306 q306 E306 Q306 => ?_)
  rw [← Q306 o (sd_of hω b303.1) b303.2]
  obtain ⟨b307, hf⟩ := ckO_some hf
  obtain ⟨b308, hf⟩ := ckV2_some hf
  refine x_putGr X (i := o) (o := (some i304)) fl_X12_169_13 fw_13 (sd_of hω b307.1) b307.2 rfl (Or.inr ⟨rfl, hini rfl, rfl⟩) (lv_of2 hω b308) rfl rfl rfl dX12_init_439 ?_
  obtain ⟨h309, eh309, hf⟩ := nm_some hf
  refine x_nmh eh309 ?_
  refine x_aload_n X dX12_init_442 0 rfl rfl ?_
  refine x_bipush X (v := 8) dX12_init_443 (by decide) ?_
  obtain ⟨b310, hf⟩ := ckW2_some hf
  obtain ⟨i311, ei311, hf⟩ := nm_some hf
  obtain ⟨h312, eh312, hf⟩ := nm_some hf
  refine x_newaI X (N := 8) (mT_1 57 rfl rfl) (by decide) (by decide +kernel) (by decide) (by constructor <;> first | decide +kernel | (simp only [Nat.zero_add]; exact Nat.le_refl _)) dX12_init_445 ei311 eh312 (fun L313 q313 E313 Q313 => ?_)
  rw [← Q313 o (sd_of hω b310.1) b310.2]
  obtain ⟨b314, hf⟩ := ckO_some hf
  obtain ⟨b315, hf⟩ := ckV2_some hf
  refine x_putGr X (i := o) (o := (some i311)) fl_X12_172_13 fw_13 (sd_of hω b314.1) b314.2 rfl (Or.inr ⟨rfl, hini rfl, rfl⟩) (lv_of2 hω b315) rfl rfl rfl dX12_init_447 ?_
  obtain ⟨h316, eh316, hf⟩ := nm_some hf
  refine x_nmh eh316 ?_
  refine x_aload_n X dX12_init_450 0 rfl rfl ?_
  refine x_bipush X (v := 8) dX12_init_451 (by decide) ?_
  obtain ⟨b317, hf⟩ := ckW2_some hf
  obtain ⟨i318, ei318, hf⟩ := nm_some hf
  obtain ⟨h319, eh319, hf⟩ := nm_some hf
  refine x_newaI X (N := 8) (mT_1 57 rfl rfl) (by decide) (by decide +kernel) (by decide) (by constructor <;> first | decide +kernel | (simp only [Nat.zero_add]; exact Nat.le_refl _)) dX12_init_453 ei318 eh319 (fun L320 q320 E320 Q320 => ?_)
  rw [← Q320 o (sd_of hω b317.1) b317.2]
  obtain ⟨b321, hf⟩ := ckO_some hf
  obtain ⟨b322, hf⟩ := ckV2_some hf
  refine x_putGr X (i := o) (o := (some i318)) fl_X12_175_13 fw_13 (sd_of hω b321.1) b321.2 rfl (Or.inr ⟨rfl, hini rfl, rfl⟩) (lv_of2 hω b322) rfl rfl rfl dX12_init_455 ?_
  obtain ⟨h323, eh323, hf⟩ := nm_some hf
  refine x_nmh eh323 ?_
  refine x_aload_n X dX12_init_458 0 rfl rfl ?_
  refine x_iconst X (v := 0) dX12_init_459 (by decide) ?_
  obtain ⟨b324, hf⟩ := ckO_some hf
  refine x_putGi X (i := o) fl_X12_178_13 fw_13 (sd_of hω b324.1) b324.2 rfl (Or.inl rfl) rfl rfl dX12_init_460 ?_
  obtain ⟨h325, eh325, hf⟩ := nm_some hf
  refine x_nmh eh325 ?_
  refine x_aload_n X dX12_init_463 0 rfl rfl ?_
  refine x_bipush X (v := 20) dX12_init_464 (by decide) ?_
  obtain ⟨b326, hf⟩ := ckW2_some hf
  obtain ⟨i327, ei327, hf⟩ := nm_some hf
  obtain ⟨h328, eh328, hf⟩ := nm_some hf
  refine x_newaI X (N := 20) (mT_1 57 rfl rfl) (by decide) (by decide +kernel) (by decide) (by constructor <;> first | decide +kernel | (simp only [Nat.zero_add]; exact Nat.le_refl _)) dX12_init_466 ei327 eh328 (fun L329 q329 E329 Q329 => ?_)
  rw [← Q329 o (sd_of hω b326.1) b326.2]
  obtain ⟨b330, hf⟩ := ckO_some hf
  obtain ⟨b331, hf⟩ := ckV2_some hf
  refine x_putGr X (i := o) (o := (some i327)) fl_X12_181_13 fw_13 (sd_of hω b330.1) b330.2 rfl (Or.inr ⟨rfl, hini rfl, rfl⟩) (lv_of2 hω b331) rfl rfl rfl dX12_init_468 ?_
  obtain ⟨h332, eh332, hf⟩ := nm_some hf
  refine x_nmh eh332 ?_
  refine x_aload_n X dX12_init_471 0 rfl rfl ?_
  refine x_bipush X (v := 6) dX12_init_472 (by decide) ?_
  obtain ⟨b333, hf⟩ := ckW2_some hf
  obtain ⟨i334, ei334, hf⟩ := nm_some hf
  obtain ⟨h335, eh335, hf⟩ := nm_some hf
  refine x_newaI X (N := 6) (mT_1 57 rfl rfl) (by decide) (by decide +kernel) (by decide) (by constructor <;> first | decide +kernel | (simp only [Nat.zero_add]; exact Nat.le_refl _)) dX12_init_474 ei334 eh335 (fun L336 q336 E336 Q336 => ?_)
  rw [← Q336 o (sd_of hω b333.1) b333.2]
  refine x_dup X dX12_init_476 rfl ?_
  refine x_iconst X (v := 0) dX12_init_477 (by decide) ?_
  refine x_iconst X (v := -1) dX12_init_478 (by decide) ?_
  obtain ⟨b337, hf⟩ := ckA_some hf
  obtain ⟨z338, hf⟩ := chk_some hf
  refine x_iast X (i := i334) (n := (alen h335 i334)) (sd_of hω b337.1) b337.2 z338 dX12_init_479 ?_
  obtain ⟨h339, eh339, hf⟩ := nm_some hf
  refine x_nmh eh339 ?_
  refine x_dup X dX12_init_480 rfl ?_
  refine x_iconst X (v := 1) dX12_init_481 (by decide) ?_
  refine x_iconst X (v := -1) dX12_init_482 (by decide) ?_
  obtain ⟨b340, hf⟩ := ckA_some hf
  obtain ⟨z341, hf⟩ := chk_some hf
  refine x_iast X (i := i334) (n := (alen h339 i334)) (sd_of hω b340.1) b340.2 z341 dX12_init_483 ?_
  obtain ⟨h342, eh342, hf⟩ := nm_some hf
  refine x_nmh eh342 ?_
  refine x_dup X dX12_init_484 rfl ?_
  refine x_iconst X (v := 2) dX12_init_485 (by decide) ?_
  refine x_iconst X (v := -1) dX12_init_486 (by decide) ?_
  obtain ⟨b343, hf⟩ := ckA_some hf
  obtain ⟨z344, hf⟩ := chk_some hf
  refine x_iast X (i := i334) (n := (alen h342 i334)) (sd_of hω b343.1) b343.2 z344 dX12_init_487 ?_
  obtain ⟨h345, eh345, hf⟩ := nm_some hf
  refine x_nmh eh345 ?_
  refine x_dup X dX12_init_488 rfl ?_
  refine x_iconst X (v := 3) dX12_init_489 (by decide) ?_
  refine x_iconst X (v := -1) dX12_init_490 (by decide) ?_
  obtain ⟨b346, hf⟩ := ckA_some hf
  obtain ⟨z347, hf⟩ := chk_some hf
  refine x_iast X (i := i334) (n := (alen h345 i334)) (sd_of hω b346.1) b346.2 z347 dX12_init_491 ?_
  obtain ⟨h348, eh348, hf⟩ := nm_some hf
  refine x_nmh eh348 ?_
  refine x_dup X dX12_init_492 rfl ?_
  refine x_iconst X (v := 4) dX12_init_493 (by decide) ?_
  refine x_iconst X (v := -1) dX12_init_494 (by decide) ?_
  obtain ⟨b349, hf⟩ := ckA_some hf
  obtain ⟨z350, hf⟩ := chk_some hf
  refine x_iast X (i := i334) (n := (alen h348 i334)) (sd_of hω b349.1) b349.2 z350 dX12_init_495 ?_
  obtain ⟨h351, eh351, hf⟩ := nm_some hf
  refine x_nmh eh351 ?_
  refine x_dup X dX12_init_496 rfl ?_
  refine x_iconst X (v := 5) dX12_init_497 (by decide) ?_
  refine x_iconst X (v := -1) dX12_init_498 (by decide) ?_
  obtain ⟨b352, hf⟩ := ckA_some hf
  obtain ⟨z353, hf⟩ := chk_some hf
  refine x_iast X (i := i334) (n := (alen h351 i334)) (sd_of hω b352.1) b352.2 z353 dX12_init_499 ?_
  obtain ⟨h354, eh354, hf⟩ := nm_some hf
  refine x_nmh eh354 ?_
  obtain ⟨b355, hf⟩ := ckO_some hf
  obtain ⟨b356, hf⟩ := ckV2_some hf
  refine x_putGr X (i := o) (o := (some i334)) fl_X12_184_13 fw_13 (sd_of hω b355.1) b355.2 rfl (Or.inr ⟨rfl, hini rfl, rfl⟩) (lv_of2 hω b356) rfl rfl rfl dX12_init_500 ?_
  obtain ⟨h357, eh357, hf⟩ := nm_some hf
  refine x_nmh eh357 ?_
  refine x_aload_n X dX12_init_503 0 rfl rfl ?_
  refine x_bipush X (v := 6) dX12_init_504 (by decide) ?_
  obtain ⟨b358, hf⟩ := ckW2_some hf
  obtain ⟨i359, ei359, hf⟩ := nm_some hf
  obtain ⟨h360, eh360, hf⟩ := nm_some hf
  refine x_newaI X (N := 6) (mT_1 57 rfl rfl) (by decide) (by decide +kernel) (by decide) (by constructor <;> first | decide +kernel | (simp only [Nat.zero_add]; exact Nat.le_refl _)) dX12_init_506 ei359 eh360 (fun L361 q361 E361 Q361 => ?_)
  rw [← Q361 o (sd_of hω b358.1) b358.2]
  obtain ⟨b362, hf⟩ := ckO_some hf
  obtain ⟨b363, hf⟩ := ckV2_some hf
  refine x_putGr X (i := o) (o := (some i359)) fl_X12_187_13 fw_13 (sd_of hω b362.1) b362.2 rfl (Or.inr ⟨rfl, hini rfl, rfl⟩) (lv_of2 hω b363) rfl rfl rfl dX12_init_508 ?_
  obtain ⟨h364, eh364, hf⟩ := nm_some hf
  refine x_nmh eh364 ?_
  refine x_aload_n X dX12_init_511 0 rfl rfl ?_
  refine x_sipush X (v := 360) dX12_init_512 (by decide) ?_
  obtain ⟨b365, hf⟩ := ckW2_some hf
  obtain ⟨i366, ei366, hf⟩ := nm_some hf
  obtain ⟨h367, eh367, hf⟩ := nm_some hf
  refine x_newaJ X (N := 360) (mT_1 189 rfl rfl) (by decide) (by decide +kernel) (by decide) (by constructor <;> first | decide +kernel | (simp only [Nat.zero_add]; exact Nat.le_refl _)) dX12_init_515 ei366 eh367 (fun L368 q368 E368 Q368 => ?_)
  rw [← Q368 o (sd_of hω b365.1) b365.2]
  obtain ⟨b369, hf⟩ := ckO_some hf
  obtain ⟨b370, hf⟩ := ckV2_some hf
  refine x_putGr X (i := o) (o := (some i366)) fl_X12_190_13 fw_13 (sd_of hω b369.1) b369.2 rfl (Or.inr ⟨rfl, hini rfl, rfl⟩) (lv_of2 hω b370) rfl rfl rfl dX12_init_517 ?_
  obtain ⟨h371, eh371, hf⟩ := nm_some hf
  refine x_nmh eh371 ?_
  refine x_aload_n X dX12_init_520 0 rfl rfl ?_
  refine x_bipush X (v := 60) dX12_init_521 (by decide) ?_
  obtain ⟨b372, hf⟩ := ckW2_some hf
  obtain ⟨i373, ei373, hf⟩ := nm_some hf
  obtain ⟨h374, eh374, hf⟩ := nm_some hf
  refine x_newaJ X (N := 60) (mT_1 189 rfl rfl) (by decide) (by decide +kernel) (by decide) (by constructor <;> first | decide +kernel | (simp only [Nat.zero_add]; exact Nat.le_refl _)) dX12_init_523 ei373 eh374 (fun L375 q375 E375 Q375 => ?_)
  rw [← Q375 o (sd_of hω b372.1) b372.2]
  obtain ⟨b376, hf⟩ := ckO_some hf
  obtain ⟨b377, hf⟩ := ckV2_some hf
  refine x_putGr X (i := o) (o := (some i373)) fl_X12_194_13 fw_13 (sd_of hω b376.1) b376.2 rfl (Or.inr ⟨rfl, hini rfl, rfl⟩) (lv_of2 hω b377) rfl rfl rfl dX12_init_525 ?_
  obtain ⟨h378, eh378, hf⟩ := nm_some hf
  refine x_nmh eh378 ?_
  obtain ⟨b379, hf⟩ := ckSl2_some hf
  obtain ⟨h380, eh380, hf⟩ := nm_some hf
  refine xg_seal2 hω b379 eh380 ?_
  exact x_retNV X R (((((((((((((((((((((((((((((((((((((E10.tr E17).tr E24).tr E31).tr E38).tr E55).tr E62).tr E69).tr E76).tr E83).tr E90).tr E97).tr E104).tr E117).tr E172).tr E179).tr E186).tr E193).tr E202).tr E209).tr E220).tr E227).tr E234).tr E257).tr E264).tr E271).tr E278).tr E285).tr E292).tr E299).tr E306).tr E313).tr E320).tr E329).tr E336).tr E361).tr E368).tr E375) hf (by constructor <;> first | decide +kernel | (simp only [Nat.zero_add]; exact Nat.le_refl _)) dX12_init_528
