theorem kt0 {ci : Nat} (h : ktF ci = [0, 0, 0]) : ∀ m fd : Nat, (ktF ci)[m]? = some fd → fd = 0 := by
  intro m fd hm
  rw [h] at hm
  match m, hm with
  | 0, hm => simpa using hm.symm
  | 1, hm => simpa using hm.symm
  | 2, hm => simpa using hm.symm
  | n + 3, hm => simp at hm
theorem x_putS_7 {ω : XO} {rm : Room} {nL : Nat} {κ : XK} {cc : ByteArray} (X : XC ω rm nL κ cc "SignalBlind$Sender") (hω : ω.2.2.2.1 = 1) {L : List Nat} {q : Nat → Nat} {h : hp} {cells slots pc : Nat} {lv : List (Nat × Value)} {rest : List Value} {o : Nat} {v : Int32} (hb : sd 1 o = true ∧ kdOf h o ∈ sndK) (hini : XInit κ) (hd : decode cc pc = .ok (.putfield 7, 3)) (kk : XG ω rm nL κ L q (sI h o 0 v) cells slots (pc + 3) lv rest) : XG ω rm nL κ L q h cells slots pc lv (.int v :: .ref (q o) :: rest) := by
  have hs := sd_of hω hb.1
  rcases snd_cases hb.2 with e | e | e | e | e | e | e
  · exact x_putGs X fl_X4_7_1 fw_1 hs e rfl (Or.inr ⟨rfl, hini, rfl⟩) rfl rfl hd kk
  · exact x_putGs X fl_X4_7_2 fw_2 hs e rfl (Or.inr ⟨rfl, hini, rfl⟩) rfl rfl hd kk
  · exact x_putGs X fl_X4_7_5 fw_5 hs e rfl (Or.inr ⟨rfl, hini, rfl⟩) rfl rfl hd kk
  · exact x_putGs X fl_X4_7_6 fw_6 hs e rfl (Or.inr ⟨rfl, hini, rfl⟩) rfl rfl hd kk
  · exact x_putGs X fl_X4_7_8 fw_8 hs e rfl (Or.inr ⟨rfl, hini, rfl⟩) rfl rfl hd kk
  · exact x_putGs X fl_X4_7_9 fw_9 hs e rfl (Or.inr ⟨rfl, hini, rfl⟩) rfl rfl hd kk
  · exact x_putGs X fl_X4_7_11 fw_11 hs e rfl (Or.inr ⟨rfl, hini, rfl⟩) rfl rfl hd kk
theorem x_putS_13 {ω : XO} {rm : Room} {nL : Nat} {κ : XK} {cc : ByteArray} (X : XC ω rm nL κ cc "SignalBlind$Sender") (hω : ω.2.2.2.1 = 1) {L : List Nat} {q : Nat → Nat} {h : hp} {cells slots pc : Nat} {lv : List (Nat × Value)} {rest : List Value} {o : Nat} {v : Int32} (hb : sd 1 o = true ∧ kdOf h o ∈ sndK) (hini : XInit κ) (hd : decode cc pc = .ok (.putfield 13, 3)) (kk : XG ω rm nL κ L q (sI h o 1 v) cells slots (pc + 3) lv rest) : XG ω rm nL κ L q h cells slots pc lv (.int v :: .ref (q o) :: rest) := by
  have hs := sd_of hω hb.1
  rcases snd_cases hb.2 with e | e | e | e | e | e | e
  · exact x_putGs X fl_X4_13_1 fw_1 hs e rfl (Or.inr ⟨rfl, hini, rfl⟩) rfl rfl hd kk
  · exact x_putGs X fl_X4_13_2 fw_2 hs e rfl (Or.inr ⟨rfl, hini, rfl⟩) rfl rfl hd kk
  · exact x_putGs X fl_X4_13_5 fw_5 hs e rfl (Or.inr ⟨rfl, hini, rfl⟩) rfl rfl hd kk
  · exact x_putGs X fl_X4_13_6 fw_6 hs e rfl (Or.inr ⟨rfl, hini, rfl⟩) rfl rfl hd kk
  · exact x_putGs X fl_X4_13_8 fw_8 hs e rfl (Or.inr ⟨rfl, hini, rfl⟩) rfl rfl hd kk
  · exact x_putGs X fl_X4_13_9 fw_9 hs e rfl (Or.inr ⟨rfl, hini, rfl⟩) rfl rfl hd kk
  · exact x_putGs X fl_X4_13_11 fw_11 hs e rfl (Or.inr ⟨rfl, hini, rfl⟩) rfl rfl hd kk
theorem x_putS_16 {ω : XO} {rm : Room} {nL : Nat} {κ : XK} {cc : ByteArray} (X : XC ω rm nL κ cc "SignalBlind$Sender") (hω : ω.2.2.2.1 = 1) {L : List Nat} {q : Nat → Nat} {h : hp} {cells slots pc : Nat} {lv : List (Nat × Value)} {rest : List Value} {o : Nat} {v : Int32} (hb : sd 1 o = true ∧ kdOf h o ∈ sndK) (hini : XInit κ) (hd : decode cc pc = .ok (.putfield 16, 3)) (kk : XG ω rm nL κ L q (sI h o 2 v) cells slots (pc + 3) lv rest) : XG ω rm nL κ L q h cells slots pc lv (.int v :: .ref (q o) :: rest) := by
  have hs := sd_of hω hb.1
  rcases snd_cases hb.2 with e | e | e | e | e | e | e
  · exact x_putGs X fl_X4_16_1 fw_1 hs e rfl (Or.inr ⟨rfl, hini, rfl⟩) rfl rfl hd kk
  · exact x_putGs X fl_X4_16_2 fw_2 hs e rfl (Or.inr ⟨rfl, hini, rfl⟩) rfl rfl hd kk
  · exact x_putGs X fl_X4_16_5 fw_5 hs e rfl (Or.inr ⟨rfl, hini, rfl⟩) rfl rfl hd kk
  · exact x_putGs X fl_X4_16_6 fw_6 hs e rfl (Or.inr ⟨rfl, hini, rfl⟩) rfl rfl hd kk
  · exact x_putGs X fl_X4_16_8 fw_8 hs e rfl (Or.inr ⟨rfl, hini, rfl⟩) rfl rfl hd kk
  · exact x_putGs X fl_X4_16_9 fw_9 hs e rfl (Or.inr ⟨rfl, hini, rfl⟩) rfl rfl hd kk
  · exact x_putGs X fl_X4_16_11 fw_11 hs e rfl (Or.inr ⟨rfl, hini, rfl⟩) rfl rfl hd kk
abbrev rm_X4_init : Room := { frames := 1, cells := 0, slots := 0, locals := 20 }
set_option maxRecDepth 100000 in
def f_X4_init (h : hp) (o : Nat) (p0 : Int32) (p1 : Int32) (p2 : Int32) : Option (hp × Unit) := (ckS h o
 (nm (sI h o 0 p0) fun h2 =>
 (ckS h2 o
 (nm (sI h2 o 1 p1) fun h4 =>
 (ckS h4 o
 (nm (sI h4 o 2 p2) fun h6 =>
 (some (h6, ()))))))))
set_option maxRecDepth 100000 in
set_option maxHeartbeats 4000000 in
theorem k_X4_init {ω : XO} (hω : ω.2.2.2.1 = 1) {L : List Nat} {q : Nat → Nat} {h h' : hp} {o : Nat} {p0 : Int32} {p1 : Int32} {p2 : Int32} {r : Unit} (hf : f_X4_init h o p0 p1 p2 = some (h', r)) : XMn ω yX4_init cX4_init 4 none rm_X4_init L q h [.ref (q o), .int p0, .int p1, .int p2] (fun _ => none) h' := by
  refine XMn_intro [(0, .ref (q o)), (1, .int p0), (2, .int p1), (3, .int p2)] "SignalBlind$Sender" (by decide) rfl rfl (Nat.le_of_ble_eq_true rfl) (fun κ X R hini => ?_)
  unfold f_X4_init at hf
  refine x_aload_n X dX4_init_0 0 rfl rfl ?_
  refine x_oinit X (by intro w hw; simp only [List.mem_cons, List.not_mem_nil, or_false] at hw; rcases hw with rfl | rfl | rfl <;> first | exact (mT_2 36 rfl rfl) | exact (mT_1 33 rfl rfl) | exact (mT_1 34 rfl rfl)) (Nat.le_of_ble_eq_true rfl) ⟨Nat.le_of_ble_eq_true rfl, Nat.le_of_ble_eq_true rfl⟩ dX4_init_1 ?_
  refine x_aload_n X dX4_init_4 0 rfl rfl ?_
  refine x_iload_n X dX4_init_5 1 rfl rfl ?_
  obtain ⟨b1, hf⟩ := ckS_some hf
  refine x_putS_7 X hω b1 (hini rfl) dX4_init_6 ?_
  obtain ⟨h2, eh2, hf⟩ := nm_some hf
  refine x_nmh eh2 ?_
  refine x_aload_n X dX4_init_9 0 rfl rfl ?_
  refine x_iload_n X dX4_init_10 2 rfl rfl ?_
  obtain ⟨b3, hf⟩ := ckS_some hf
  refine x_putS_13 X hω b3 (hini rfl) dX4_init_11 ?_
  obtain ⟨h4, eh4, hf⟩ := nm_some hf
  refine x_nmh eh4 ?_
  refine x_aload_n X dX4_init_14 0 rfl rfl ?_
  refine x_iload_n X dX4_init_15 3 rfl rfl ?_
  obtain ⟨b5, hf⟩ := ckS_some hf
  refine x_putS_16 X hω b5 (hini rfl) dX4_init_16 ?_
  obtain ⟨h6, eh6, hf⟩ := nm_some hf
  refine x_nmh eh6 ?_
  exact x_retNV X R Ext.rf hf (by constructor <;> first | decide +kernel | (simp only [Nat.zero_add]; exact Nat.le_refl _)) dX4_init_19
abbrev rm_X7_init : Room := { frames := 2, cells := 0, slots := 0, locals := 43 }
set_option maxRecDepth 100000 in
def f_X7_init (h : hp) (o : Nat) (p0 : Int32) (p1 : Int32) (p2 : Int32) : Option (hp × Unit) := (ckW h o
 (bnd (f_X4_init h o p0 p1 p2) fun h2 _ =>
 (some (h2, ()))))
set_option maxRecDepth 100000 in
set_option maxHeartbeats 4000000 in
theorem k_X7_init {ω : XO} (hω : ω.2.2.2.1 = 1) {L : List Nat} {q : Nat → Nat} {h h' : hp} {o : Nat} {p0 : Int32} {p1 : Int32} {p2 : Int32} {r : Unit} (hf : f_X7_init h o p0 p1 p2 = some (h', r)) : XMn ω yX7_init cX7_init 4 none rm_X7_init L q h [.ref (q o), .int p0, .int p1, .int p2] (fun _ => none) h' := by
  refine XMn_intro [(0, .ref (q o)), (1, .int p0), (2, .int p1), (3, .int p2)] "SignalBlind$Tilted" (by decide) rfl rfl (Nat.le_of_ble_eq_true rfl) (fun κ X R hini => ?_)
  unfold f_X7_init at hf
  refine x_aload_n X dX7_init_0 0 rfl rfl ?_
  refine x_iload_n X dX7_init_1 1 rfl rfl ?_
  refine x_iload_n X dX7_init_2 2 rfl rfl ?_
  refine x_iload_n X dX7_init_3 3 rfl rfl ?_
  obtain ⟨b1, hf⟩ := ckW_some hf
  obtain ⟨h2, uh2, g3, hf⟩ := bnd_some hf
  refine x_callI X [.int p0, .int p1, .int p2] [] (k_X4_init hω g3) (by intro w hw; simp only [List.mem_cons, List.not_mem_nil, or_false] at hw; rcases hw with rfl | rfl | rfl <;> first | exact (mT_2 33 rfl rfl) | exact (mT_2 34 rfl rfl) | exact (mT_1 11 rfl rfl)) (mT_2 35 rfl rfl) rfl ⟨by decide, by decide, (by decide : (parseMethodDescriptor yX4_init.desc).map (fun d => d.parameters.length) = some 3)⟩ ⟨Nat.le_of_ble_eq_true rfl, Nat.le_of_ble_eq_true rfl⟩ (by constructor <;> first | decide +kernel | (simp only [Nat.zero_add]; exact Nat.le_refl _)) rfl (Nat.le_of_ble_eq_true rfl) dX7_init_4 (fun L4 q4 E4 Q4 => ?_)
  rw [← Q4 o (sd_of hω b1.1) b1.2]
  exact x_retNV X R E4 hf (by constructor <;> first | decide +kernel | (simp only [Nat.zero_add]; exact Nat.le_refl _)) dX7_init_7
abbrev rm_X0_init : Room := { frames := 2, cells := 0, slots := 0, locals := 43 }
set_option maxRecDepth 100000 in
def f_X0_init (h : hp) (o : Nat) (p0 : Int32) (p1 : Int32) (p2 : Int32) : Option (hp × Unit) := (ckW h o
 (bnd (f_X4_init h o p0 p1 p2) fun h2 _ =>
 (some (h2, ()))))
set_option maxRecDepth 100000 in
set_option maxHeartbeats 4000000 in
theorem k_X0_init {ω : XO} (hω : ω.2.2.2.1 = 1) {L : List Nat} {q : Nat → Nat} {h h' : hp} {o : Nat} {p0 : Int32} {p1 : Int32} {p2 : Int32} {r : Unit} (hf : f_X0_init h o p0 p1 p2 = some (h', r)) : XMn ω yX0_init cX0_init 4 none rm_X0_init L q h [.ref (q o), .int p0, .int p1, .int p2] (fun _ => none) h' := by
  refine XMn_intro [(0, .ref (q o)), (1, .int p0), (2, .int p1), (3, .int p2)] "SignalBlind$Half" (by decide) rfl rfl (Nat.le_of_ble_eq_true rfl) (fun κ X R hini => ?_)
  unfold f_X0_init at hf
  refine x_aload_n X dX0_init_0 0 rfl rfl ?_
  refine x_iload_n X dX0_init_1 1 rfl rfl ?_
  refine x_iload_n X dX0_init_2 2 rfl rfl ?_
  refine x_iload_n X dX0_init_3 3 rfl rfl ?_
  obtain ⟨b1, hf⟩ := ckW_some hf
  obtain ⟨h2, uh2, g3, hf⟩ := bnd_some hf
  refine x_callI X [.int p0, .int p1, .int p2] [] (k_X4_init hω g3) (by intro w hw; simp only [List.mem_cons, List.not_mem_nil, or_false] at hw; rcases hw with rfl | rfl | rfl <;> first | exact (mT_2 58 rfl rfl) | exact (mT_2 34 rfl rfl) | exact (mT_1 11 rfl rfl)) (mT_2 35 rfl rfl) rfl ⟨by decide, by decide, (by decide : (parseMethodDescriptor yX4_init.desc).map (fun d => d.parameters.length) = some 3)⟩ ⟨Nat.le_of_ble_eq_true rfl, Nat.le_of_ble_eq_true rfl⟩ (by constructor <;> first | decide +kernel | (simp only [Nat.zero_add]; exact Nat.le_refl _)) rfl (Nat.le_of_ble_eq_true rfl) dX0_init_4 (fun L4 q4 E4 Q4 => ?_)
  rw [← Q4 o (sd_of hω b1.1) b1.2]
  exact x_retNV X R E4 hf (by constructor <;> first | decide +kernel | (simp only [Nat.zero_add]; exact Nat.le_refl _)) dX0_init_7
abbrev rm_X1_init : Room := { frames := 2, cells := 0, slots := 0, locals := 43 }
set_option maxRecDepth 100000 in
def f_X1_init (h : hp) (o : Nat) (p0 : Int32) (p1 : Int32) (p2 : Int32) : Option (hp × Unit) := (ckW h o
 (bnd (f_X4_init h o p0 p1 p2) fun h2 _ =>
 (some (h2, ()))))
set_option maxRecDepth 100000 in
set_option maxHeartbeats 4000000 in
theorem k_X1_init {ω : XO} (hω : ω.2.2.2.1 = 1) {L : List Nat} {q : Nat → Nat} {h h' : hp} {o : Nat} {p0 : Int32} {p1 : Int32} {p2 : Int32} {r : Unit} (hf : f_X1_init h o p0 p1 p2 = some (h', r)) : XMn ω yX1_init cX1_init 4 none rm_X1_init L q h [.ref (q o), .int p0, .int p1, .int p2] (fun _ => none) h' := by
  refine XMn_intro [(0, .ref (q o)), (1, .int p0), (2, .int p1), (3, .int p2)] "SignalBlind$Nurse" (by decide) rfl rfl (Nat.le_of_ble_eq_true rfl) (fun κ X R hini => ?_)
  unfold f_X1_init at hf
  refine x_aload_n X dX1_init_0 0 rfl rfl ?_
  refine x_iload_n X dX1_init_1 1 rfl rfl ?_
  refine x_iload_n X dX1_init_2 2 rfl rfl ?_
  refine x_iload_n X dX1_init_3 3 rfl rfl ?_
  obtain ⟨b1, hf⟩ := ckW_some hf
  obtain ⟨h2, uh2, g3, hf⟩ := bnd_some hf
  refine x_callI X [.int p0, .int p1, .int p2] [] (k_X4_init hω g3) (by intro w hw; simp only [List.mem_cons, List.not_mem_nil, or_false] at hw; rcases hw with rfl | rfl | rfl <;> first | exact (mT_2 68 rfl rfl) | exact (mT_2 34 rfl rfl) | exact (mT_1 11 rfl rfl)) (mT_2 35 rfl rfl) rfl ⟨by decide, by decide, (by decide : (parseMethodDescriptor yX4_init.desc).map (fun d => d.parameters.length) = some 3)⟩ ⟨Nat.le_of_ble_eq_true rfl, Nat.le_of_ble_eq_true rfl⟩ (by constructor <;> first | decide +kernel | (simp only [Nat.zero_add]; exact Nat.le_refl _)) rfl (Nat.le_of_ble_eq_true rfl) dX1_init_4 (fun L4 q4 E4 Q4 => ?_)
  rw [← Q4 o (sd_of hω b1.1) b1.2]
  exact x_retNV X R E4 hf (by constructor <;> first | decide +kernel | (simp only [Nat.zero_add]; exact Nat.le_refl _)) dX1_init_7
abbrev rm_X5_init : Room := { frames := 3, cells := 0, slots := 0, locals := 66 }
set_option maxRecDepth 100000 in
def f_X5_init (h : hp) (o : Nat) (p0 : Int32) (p1 : Int32) (p2 : Int32) : Option (hp × Unit) := (ckW h o
 (bnd (f_X7_init h o p0 p1 p2) fun h2 _ =>
 (some (h2, ()))))
set_option maxRecDepth 100000 in
set_option maxHeartbeats 4000000 in
theorem k_X5_init {ω : XO} (hω : ω.2.2.2.1 = 1) {L : List Nat} {q : Nat → Nat} {h h' : hp} {o : Nat} {p0 : Int32} {p1 : Int32} {p2 : Int32} {r : Unit} (hf : f_X5_init h o p0 p1 p2 = some (h', r)) : XMn ω yX5_init cX5_init 4 none rm_X5_init L q h [.ref (q o), .int p0, .int p1, .int p2] (fun _ => none) h' := by
  refine XMn_intro [(0, .ref (q o)), (1, .int p0), (2, .int p1), (3, .int p2)] "SignalBlind$Sister" (by decide) rfl rfl (Nat.le_of_ble_eq_true rfl) (fun κ X R hini => ?_)
  unfold f_X5_init at hf
  refine x_aload_n X dX5_init_0 0 rfl rfl ?_
  refine x_iload_n X dX5_init_1 1 rfl rfl ?_
  refine x_iload_n X dX5_init_2 2 rfl rfl ?_
  refine x_iload_n X dX5_init_3 3 rfl rfl ?_
  obtain ⟨b1, hf⟩ := ckW_some hf
  obtain ⟨h2, uh2, g3, hf⟩ := bnd_some hf
  refine x_callI X [.int p0, .int p1, .int p2] [] (k_X7_init hω g3) (by intro w hw; simp only [List.mem_cons, List.not_mem_nil, or_false] at hw; rcases hw with rfl | rfl | rfl <;> first | exact (mT_2 78 rfl rfl) | exact (mT_2 31 rfl rfl) | exact (mT_1 12 rfl rfl)) (mT_2 32 rfl rfl) rfl ⟨by decide, by decide, (by decide : (parseMethodDescriptor yX7_init.desc).map (fun d => d.parameters.length) = some 3)⟩ ⟨Nat.le_of_ble_eq_true rfl, Nat.le_of_ble_eq_true rfl⟩ (by constructor <;> first | decide +kernel | (simp only [Nat.zero_add]; exact Nat.le_refl _)) rfl (Nat.le_of_ble_eq_true rfl) dX5_init_4 (fun L4 q4 E4 Q4 => ?_)
  rw [← Q4 o (sd_of hω b1.1) b1.2]
  exact x_retNV X R E4 hf (by constructor <;> first | decide +kernel | (simp only [Nat.zero_add]; exact Nat.le_refl _)) dX5_init_7
abbrev rm_X8_init : Room := { frames := 3, cells := 0, slots := 0, locals := 66 }
set_option maxRecDepth 100000 in
def f_X8_init (h : hp) (o : Nat) (p0 : Int32) (p1 : Int32) (p2 : Int32) : Option (hp × Unit) := (ckW h o
 (bnd (f_X1_init h o p0 p1 p2) fun h2 _ =>
 (some (h2, ()))))
set_option maxRecDepth 100000 in
set_option maxHeartbeats 4000000 in
theorem k_X8_init {ω : XO} (hω : ω.2.2.2.1 = 1) {L : List Nat} {q : Nat → Nat} {h h' : hp} {o : Nat} {p0 : Int32} {p1 : Int32} {p2 : Int32} {r : Unit} (hf : f_X8_init h o p0 p1 p2 = some (h', r)) : XMn ω yX8_init cX8_init 4 none rm_X8_init L q h [.ref (q o), .int p0, .int p1, .int p2] (fun _ => none) h' := by
  refine XMn_intro [(0, .ref (q o)), (1, .int p0), (2, .int p1), (3, .int p2)] "SignalBlind$Told" (by decide) rfl rfl (Nat.le_of_ble_eq_true rfl) (fun κ X R hini => ?_)
  unfold f_X8_init at hf
  refine x_aload_n X dX8_init_0 0 rfl rfl ?_
  refine x_iload_n X dX8_init_1 1 rfl rfl ?_
  refine x_iload_n X dX8_init_2 2 rfl rfl ?_
  refine x_iload_n X dX8_init_3 3 rfl rfl ?_
  obtain ⟨b1, hf⟩ := ckW_some hf
  obtain ⟨h2, uh2, g3, hf⟩ := bnd_some hf
  refine x_callI X [.int p0, .int p1, .int p2] [] (k_X1_init hω g3) (by intro w hw; simp only [List.mem_cons, List.not_mem_nil, or_false] at hw; rcases hw with rfl | rfl | rfl <;> first | exact (mT_2 98 rfl rfl) | exact (mT_2 66 rfl rfl) | exact (mT_1 14 rfl rfl)) (mT_2 67 rfl rfl) rfl ⟨by decide, by decide, (by decide : (parseMethodDescriptor yX1_init.desc).map (fun d => d.parameters.length) = some 3)⟩ ⟨Nat.le_of_ble_eq_true rfl, Nat.le_of_ble_eq_true rfl⟩ (by constructor <;> first | decide +kernel | (simp only [Nat.zero_add]; exact Nat.le_refl _)) rfl (Nat.le_of_ble_eq_true rfl) dX8_init_4 (fun L4 q4 E4 Q4 => ?_)
  rw [← Q4 o (sd_of hω b1.1) b1.2]
  exact x_retNV X R E4 hf (by constructor <;> first | decide +kernel | (simp only [Nat.zero_add]; exact Nat.le_refl _)) dX8_init_7
abbrev rm_X10_init : Room := { frames := 3, cells := 0, slots := 0, locals := 66 }
set_option maxRecDepth 100000 in
def f_X10_init (h : hp) (o : Nat) (p0 : Int32) (p1 : Int32) (p2 : Int32) : Option (hp × Unit) := (ckW h o
 (bnd (f_X0_init h o p0 p1 p2) fun h2 _ =>
 (some (h2, ()))))
set_option maxRecDepth 100000 in
set_option maxHeartbeats 4000000 in
theorem k_X10_init {ω : XO} (hω : ω.2.2.2.1 = 1) {L : List Nat} {q : Nat → Nat} {h h' : hp} {o : Nat} {p0 : Int32} {p1 : Int32} {p2 : Int32} {r : Unit} (hf : f_X10_init h o p0 p1 p2 = some (h', r)) : XMn ω yX10_init cX10_init 4 none rm_X10_init L q h [.ref (q o), .int p0, .int p1, .int p2] (fun _ => none) h' := by
  refine XMn_intro [(0, .ref (q o)), (1, .int p0), (2, .int p1), (3, .int p2)] "SignalBlind$Wind" (by decide) rfl rfl (Nat.le_of_ble_eq_true rfl) (fun κ X R hini => ?_)
  unfold f_X10_init at hf
  refine x_aload_n X dX10_init_0 0 rfl rfl ?_
  refine x_iload_n X dX10_init_1 1 rfl rfl ?_
  refine x_iload_n X dX10_init_2 2 rfl rfl ?_
  refine x_iload_n X dX10_init_3 3 rfl rfl ?_
  obtain ⟨b1, hf⟩ := ckW_some hf
  obtain ⟨h2, uh2, g3, hf⟩ := bnd_some hf
  refine x_callI X [.int p0, .int p1, .int p2] [] (k_X0_init hω g3) (by intro w hw; simp only [List.mem_cons, List.not_mem_nil, or_false] at hw; rcases hw with rfl | rfl | rfl <;> first | exact (mT_2 88 rfl rfl) | exact (mT_2 56 rfl rfl) | exact (mT_1 13 rfl rfl)) (mT_2 57 rfl rfl) rfl ⟨by decide, by decide, (by decide : (parseMethodDescriptor yX0_init.desc).map (fun d => d.parameters.length) = some 3)⟩ ⟨Nat.le_of_ble_eq_true rfl, Nat.le_of_ble_eq_true rfl⟩ (by constructor <;> first | decide +kernel | (simp only [Nat.zero_add]; exact Nat.le_refl _)) rfl (Nat.le_of_ble_eq_true rfl) dX10_init_4 (fun L4 q4 E4 Q4 => ?_)
  rw [← Q4 o (sd_of hω b1.1) b1.2]
  exact x_retNV X R E4 hf (by constructor <;> first | decide +kernel | (simp only [Nat.zero_add]; exact Nat.le_refl _)) dX10_init_7
abbrev rm_X9_init : Room := { frames := 1, cells := 4, slots := 130, locals := 20 }
set_option maxRecDepth 100000 in
def f_X9_init (h : hp) (o : Nat) : Option (hp × Unit) := (ckW h o
 (nm (nid h) fun i2 =>
 (nm (nwk h (40 + 10 * 10 + 0)) fun h3 =>
 (ckO 1 h3 o (20 + 10)
 (ckV h3 (some i2)
 (nm (sR h3 o 0 (some i2)) fun h7 =>
 (ckW h7 o
 (nm (nid h7) fun i9 =>
 (nm (nwk h7 (40 + 10 * 10 + 0)) fun h10 =>
 (ckO 1 h10 o (20 + 10)
 (ckV h10 (some i9)
 (nm (sR h10 o 1 (some i9)) fun h14 =>
 (ckW h14 o
 (nm (nid h14) fun i16 =>
 (nm (nwk h14 (40 + 10 * 10 + 0)) fun h17 =>
 (ckO 1 h17 o (20 + 10)
 (ckV h17 (some i16)
 (nm (sR h17 o 2 (some i16)) fun h21 =>
 (ckO 1 h21 o (20 + 10)
 (nm (sI h21 o 3 (0 : Int32)) fun h23 =>
 (ckW h23 o
 (nm (nid h23) fun i25 =>
 (nm (nwk h23 (40 + 10 * 100 + 0)) fun h26 =>
 (ckO 1 h26 o (20 + 10)
 (ckV h26 (some i25)
 (nm (sR h26 o 4 (some i25)) fun h30 =>
 (ckO 1 h30 o (20 + 10)
 (nm (sI h30 o 5 (0 : Int32)) fun h32 =>
 (ckO 1 h32 o (20 + 10)
 (nm (sI h32 o 6 (2 : Int32)) fun h34 =>
 (ckO 1 h34 o (20 + 10)
 (ckV h34 none
 (nm (sR h34 o 7 none) fun h37 =>
 (ckO 1 h37 o (20 + 10)
 (nm (sI h37 o 8 (0 : Int32)) fun h39 =>
 (ckSl h39 o 10
 (nm (sK h39 o 11) fun h41 =>
 (some (h41, ())))))))))))))))))))))))))))))))))))))))
set_option maxRecDepth 100000 in
set_option maxHeartbeats 4000000 in
theorem k_X9_init {ω : XO} (hω : ω.2.2.2.1 = 1) {L : List Nat} {q : Nat → Nat} {h h' : hp} {o : Nat} {r : Unit} (hf : f_X9_init h o = some (h', r)) : XMn ω yX9_init cX9_init 1 none rm_X9_init L q h [.ref (q o)] (fun _ => none) h' := by
  refine XMn_intro [(0, .ref (q o))] "SignalBlind$Ward" (by decide) rfl rfl (Nat.le_of_ble_eq_true rfl) (fun κ X R hini => ?_)
  unfold f_X9_init at hf
  refine x_aload_n X dX9_init_0 0 rfl rfl ?_
  refine x_oinit X (by intro w hw; simp only [List.mem_cons, List.not_mem_nil, or_false] at hw; rcases hw with rfl | rfl | rfl <;> first | exact (mT_1 108 rfl rfl) | exact (mT_1 33 rfl rfl) | exact (mT_1 34 rfl rfl)) (Nat.le_of_ble_eq_true rfl) ⟨Nat.le_of_ble_eq_true rfl, Nat.le_of_ble_eq_true rfl⟩ dX9_init_1 ?_
  refine x_aload_n X dX9_init_4 0 rfl rfl ?_
  refine x_bipush X (v := 10) dX9_init_5 (by decide) ?_
  obtain ⟨b1, hf⟩ := ckW_some hf
  obtain ⟨i2, ei2, hf⟩ := nm_some hf
  obtain ⟨h3, eh3, hf⟩ := nm_some hf
  refine x_newaI X (N := 10) (mT_1 57 rfl rfl) (by decide) (by decide +kernel) (by decide) (by constructor <;> first | decide +kernel | (simp only [Nat.zero_add]; exact Nat.le_refl _)) dX9_init_7 ei2 eh3 (fun L4 q4 E4 Q4 => ?_)
  rw [← Q4 o (sd_of hω b1.1) b1.2]
  obtain ⟨b5, hf⟩ := ckO_some hf
  obtain ⟨b6, hf⟩ := ckV_some hf
  refine x_putGr X (i := o) (o := (some i2)) fl_X9_11_10 fw_10 (sd_of hω b5.1) b5.2 rfl (Or.inr ⟨rfl, hini rfl, rfl⟩) (lv_of hω b6) rfl rfl rfl dX9_init_9 ?_
  obtain ⟨h7, eh7, hf⟩ := nm_some hf
  refine x_nmh eh7 ?_
  refine x_aload_n X dX9_init_12 0 rfl rfl ?_
  refine x_bipush X (v := 10) dX9_init_13 (by decide) ?_
  obtain ⟨b8, hf⟩ := ckW_some hf
  obtain ⟨i9, ei9, hf⟩ := nm_some hf
  obtain ⟨h10, eh10, hf⟩ := nm_some hf
  refine x_newaI X (N := 10) (mT_1 57 rfl rfl) (by decide) (by decide +kernel) (by decide) (by constructor <;> first | decide +kernel | (simp only [Nat.zero_add]; exact Nat.le_refl _)) dX9_init_15 ei9 eh10 (fun L11 q11 E11 Q11 => ?_)
  rw [← Q11 o (sd_of hω b8.1) b8.2]
  obtain ⟨b12, hf⟩ := ckO_some hf
  obtain ⟨b13, hf⟩ := ckV_some hf
  refine x_putGr X (i := o) (o := (some i9)) fl_X9_15_10 fw_10 (sd_of hω b12.1) b12.2 rfl (Or.inr ⟨rfl, hini rfl, rfl⟩) (lv_of hω b13) rfl rfl rfl dX9_init_17 ?_
  obtain ⟨h14, eh14, hf⟩ := nm_some hf
  refine x_nmh eh14 ?_
  refine x_aload_n X dX9_init_20 0 rfl rfl ?_
  refine x_bipush X (v := 10) dX9_init_21 (by decide) ?_
  obtain ⟨b15, hf⟩ := ckW_some hf
  obtain ⟨i16, ei16, hf⟩ := nm_some hf
  obtain ⟨h17, eh17, hf⟩ := nm_some hf
  refine x_newaI X (N := 10) (mT_1 57 rfl rfl) (by decide) (by decide +kernel) (by decide) (by constructor <;> first | decide +kernel | (simp only [Nat.zero_add]; exact Nat.le_refl _)) dX9_init_23 ei16 eh17 (fun L18 q18 E18 Q18 => ?_)
  rw [← Q18 o (sd_of hω b15.1) b15.2]
  obtain ⟨b19, hf⟩ := ckO_some hf
  obtain ⟨b20, hf⟩ := ckV_some hf
  refine x_putGr X (i := o) (o := (some i16)) fl_X9_18_10 fw_10 (sd_of hω b19.1) b19.2 rfl (Or.inr ⟨rfl, hini rfl, rfl⟩) (lv_of hω b20) rfl rfl rfl dX9_init_25 ?_
  obtain ⟨h21, eh21, hf⟩ := nm_some hf
  refine x_nmh eh21 ?_
  refine x_aload_n X dX9_init_28 0 rfl rfl ?_
  refine x_iconst X (v := 0) dX9_init_29 (by decide) ?_
  obtain ⟨b22, hf⟩ := ckO_some hf
  refine x_putGi X (i := o) fl_X9_21_10 fw_10 (sd_of hω b22.1) b22.2 rfl (Or.inl rfl) rfl rfl dX9_init_30 ?_
  obtain ⟨h23, eh23, hf⟩ := nm_some hf
  refine x_nmh eh23 ?_
  refine x_aload_n X dX9_init_33 0 rfl rfl ?_
  refine x_bipush X (v := 100) dX9_init_34 (by decide) ?_
  obtain ⟨b24, hf⟩ := ckW_some hf
  obtain ⟨i25, ei25, hf⟩ := nm_some hf
  obtain ⟨h26, eh26, hf⟩ := nm_some hf
  refine x_newaI X (N := 100) (mT_1 57 rfl rfl) (by decide) (by decide +kernel) (by decide) (by constructor <;> first | decide +kernel | (simp only [Nat.zero_add]; exact Nat.le_refl _)) dX9_init_36 ei25 eh26 (fun L27 q27 E27 Q27 => ?_)
  rw [← Q27 o (sd_of hω b24.1) b24.2]
  obtain ⟨b28, hf⟩ := ckO_some hf
  obtain ⟨b29, hf⟩ := ckV_some hf
  refine x_putGr X (i := o) (o := (some i25)) fl_X9_25_10 fw_10 (sd_of hω b28.1) b28.2 rfl (Or.inr ⟨rfl, hini rfl, rfl⟩) (lv_of hω b29) rfl rfl rfl dX9_init_38 ?_
  obtain ⟨h30, eh30, hf⟩ := nm_some hf
  refine x_nmh eh30 ?_
  refine x_aload_n X dX9_init_41 0 rfl rfl ?_
  refine x_iconst X (v := 0) dX9_init_42 (by decide) ?_
  obtain ⟨b31, hf⟩ := ckO_some hf
  refine x_putGi X (i := o) fl_X9_28_10 fw_10 (sd_of hω b31.1) b31.2 rfl (Or.inl rfl) rfl rfl dX9_init_43 ?_
  obtain ⟨h32, eh32, hf⟩ := nm_some hf
  refine x_nmh eh32 ?_
  refine x_aload_n X dX9_init_46 0 rfl rfl ?_
  refine x_iconst X (v := 2) dX9_init_47 (by decide) ?_
  obtain ⟨b33, hf⟩ := ckO_some hf
  refine x_putGi X (i := o) fl_X9_31_10 fw_10 (sd_of hω b33.1) b33.2 rfl (Or.inl rfl) rfl rfl dX9_init_48 ?_
  obtain ⟨h34, eh34, hf⟩ := nm_some hf
  refine x_nmh eh34 ?_
  refine x_aload_n X dX9_init_51 0 rfl rfl ?_
  refine x_null X dX9_init_52 ?_
  obtain ⟨b35, hf⟩ := ckO_some hf
  obtain ⟨b36, hf⟩ := ckV_some hf
  refine x_putGr X (i := o) (o := none) fl_X9_34_10 fw_10 (sd_of hω b35.1) b35.2 rfl (Or.inl rfl) (lv_of hω b36) rfl rfl rfl dX9_init_53 ?_
  obtain ⟨h37, eh37, hf⟩ := nm_some hf
  refine x_nmh eh37 ?_
  refine x_aload_n X dX9_init_56 0 rfl rfl ?_
  refine x_iconst X (v := 0) dX9_init_57 (by decide) ?_
  obtain ⟨b38, hf⟩ := ckO_some hf
  refine x_putGi X (i := o) fl_X9_38_10 fw_10 (sd_of hω b38.1) b38.2 rfl (Or.inl rfl) rfl rfl dX9_init_58 ?_
  obtain ⟨h39, eh39, hf⟩ := nm_some hf
  refine x_nmh eh39 ?_
  obtain ⟨b40, hf⟩ := ckSl_some hf
  obtain ⟨h41, eh41, hf⟩ := nm_some hf
  refine xg_seal hω b40 eh41 ?_
  exact x_retNV X R (((E4.tr E11).tr E18).tr E27) hf (by constructor <;> first | decide +kernel | (simp only [Nat.zero_add]; exact Nat.le_refl _)) dX9_init_61
abbrev rm_X11_newSender : Room := { frames := 4, cells := 1, slots := 3, locals := 89 }
set_option maxRecDepth 100000 in
def f_X11_newSender (h : hp) (p0 : Int32) (p1 : Int32) (p2 : Int32) : Option (hp × Nat) := (if p1 = (1 : Int32) then
 (nm (nid h) fun i2 =>
 (nm (nwk h 9) fun h3 =>
 (ckW h3 i2
 (bnd (f_X7_init h3 i2 p0 p1 p2) fun h6 _ =>
 (some (h6, i2))))))
 else
 (if p1 = (2 : Int32) then
 (nm (nid h) fun i10 =>
 (nm (nwk h 2) fun h11 =>
 (ckW h11 i10
 (bnd (f_X0_init h11 i10 p0 p1 p2) fun h14 _ =>
 (some (h14, i10))))))
 else
 (if p1 = (3 : Int32) then
 (nm (nid h) fun i18 =>
 (nm (nwk h 3) fun h19 =>
 (ckW h19 i18
 (bnd (f_X1_init h19 i18 p0 p1 p2) fun h22 _ =>
 (some (h22, i18))))))
 else
 (if p1 = (4 : Int32) then
 (nm (nid h) fun i26 =>
 (nm (nwk h 7) fun h27 =>
 (ckW h27 i26
 (bnd (f_X5_init h27 i26 p0 p1 p2) fun h30 _ =>
 (some (h30, i26))))))
 else
 (if p1 = (5 : Int32) then
 (nm (nid h) fun i34 =>
 (nm (nwk h 12) fun h35 =>
 (ckW h35 i34
 (bnd (f_X10_init h35 i34 p0 p1 p2) fun h38 _ =>
 (some (h38, i34))))))
 else
 (if p1 = (6 : Int32) then
 (nm (nid h) fun i42 =>
 (nm (nwk h 10) fun h43 =>
 (ckW h43 i42
 (bnd (f_X8_init h43 i42 p0 p1 p2) fun h46 _ =>
 (some (h46, i42))))))
 else
 (nm (nid h) fun i49 =>
 (nm (nwk h 6) fun h50 =>
 (ckW h50 i49
 (bnd (f_X4_init h50 i49 p0 (0 : Int32) p2) fun h53 _ =>
 (some (h53, i49))))))))))))
set_option maxRecDepth 100000 in
set_option maxHeartbeats 4000000 in
theorem k_X11_newSender {ω : XO} (hω : ω.2.2.2.1 = 1) {L : List Nat} {q : Nat → Nat} {h h' : hp} {p0 : Int32} {p1 : Int32} {p2 : Int32} {r : Nat} (hf : f_X11_newSender h p0 p1 p2 = some (h', r)) : XMn ω yX11_newSender cX11_newSender 3 (some (.object "SignalBlind$Sender")) rm_X11_newSender L q h [.int p0, .int p1, .int p2] (fun q => some (.ref (q r))) h' := by
  refine XMn_intro [(0, .int p0), (1, .int p1), (2, .int p2)] "SignalBlind" (by decide) rfl rfl (Nat.le_of_ble_eq_true rfl) (fun κ X R hini => ?_)
  unfold f_X11_newSender at hf
  refine x_iload_n X dX11_newSender_0 1 rfl rfl ?_
  by_cases s1 : p1 = (1 : Int32)
  · replace hf := (if_pos s1).symm.trans hf
    refine x_tswI X (off := 39) 40 dX11_newSender_1 s1 (by decide) (by decide) (by decide) (by decide) ?_
    obtain ⟨i2, ei2, hf⟩ := nm_some hf
    obtain ⟨h3, eh3, hf⟩ := nm_some hf
    refine xg_new X (ci := 8) (k := 9) (C := RX7) (T := TX7) (N := 3) (by decide) rfl fw_8 inA_8 (by intro w hw; simp only [List.mem_cons, List.not_mem_nil, or_false] at hw; rcases hw with rfl | rfl | rfl <;> first | exact (mT_2 28 rfl rfl) | exact (mT_2 29 rfl rfl) | exact (mT_1 12 rfl rfl)) (Or.inr ⟨rfl, kt0 rfl⟩) (by decide +kernel) (by constructor <;> first | decide +kernel | (simp only [Nat.zero_add]; exact Nat.le_refl _)) dX11_newSender_40 ei2 eh3 (fun L4 q4 E4 Q4 => ?_)
    refine x_dup X dX11_newSender_43 rfl ?_
    refine x_iload_n X dX11_newSender_44 0 rfl rfl ?_
    refine x_iload_n X dX11_newSender_45 1 rfl rfl ?_
    refine x_iload_n X dX11_newSender_46 2 rfl rfl ?_
    obtain ⟨b5, hf⟩ := ckW_some hf
    obtain ⟨h6, uh6, g7, hf⟩ := bnd_some hf
    refine x_callI X [.int p0, .int p1, .int p2] [.ref (q4 i2)] (k_X7_init hω g7) (by intro w hw; simp only [List.mem_cons, List.not_mem_nil, or_false] at hw; rcases hw with rfl | rfl | rfl <;> first | exact (mT_2 30 rfl rfl) | exact (mT_2 31 rfl rfl) | exact (mT_1 12 rfl rfl)) (mT_2 32 rfl rfl) rfl ⟨by decide, by decide, (by decide : (parseMethodDescriptor yX7_init.desc).map (fun d => d.parameters.length) = some 3)⟩ ⟨Nat.le_of_ble_eq_true rfl, Nat.le_of_ble_eq_true rfl⟩ (by constructor <;> first | decide +kernel | (simp only [Nat.zero_add]; exact Nat.le_refl _)) rfl (Nat.le_of_ble_eq_true rfl) dX11_newSender_47 (fun L8 q8 E8 Q8 => ?_)
    rw [← Q8 i2 (sd_of hω b5.1) b5.2]
    exact x_retNA X R ⟨_, rfl⟩ (E4.tr E8) hf (by constructor <;> first | decide +kernel | (simp only [Nat.zero_add]; exact Nat.le_refl _)) dX11_newSender_50
  · replace hf := (if_neg s1).symm.trans hf
    by_cases s9 : p1 = (2 : Int32)
    · replace hf := (if_pos s9).symm.trans hf
      refine x_tswI X (off := 50) 51 dX11_newSender_1 s9 (by decide) (by decide) (by decide) (by decide) ?_
      obtain ⟨i10, ei10, hf⟩ := nm_some hf
      obtain ⟨h11, eh11, hf⟩ := nm_some hf
      refine xg_new X (ci := 1) (k := 2) (C := RX0) (T := TX0) (N := 3) (by decide) rfl fw_1 inA_1 (by intro w hw; simp only [List.mem_cons, List.not_mem_nil, or_false] at hw; rcases hw with rfl | rfl | rfl <;> first | exact (mT_2 53 rfl rfl) | exact (mT_2 54 rfl rfl) | exact (mT_1 13 rfl rfl)) (Or.inr ⟨rfl, kt0 rfl⟩) (by decide +kernel) (by constructor <;> first | decide +kernel | (simp only [Nat.zero_add]; exact Nat.le_refl _)) dX11_newSender_51 ei10 eh11 (fun L12 q12 E12 Q12 => ?_)
      refine x_dup X dX11_newSender_54 rfl ?_
      refine x_iload_n X dX11_newSender_55 0 rfl rfl ?_
      refine x_iload_n X dX11_newSender_56 1 rfl rfl ?_
      refine x_iload_n X dX11_newSender_57 2 rfl rfl ?_
      obtain ⟨b13, hf⟩ := ckW_some hf
      obtain ⟨h14, uh14, g15, hf⟩ := bnd_some hf
      refine x_callI X [.int p0, .int p1, .int p2] [.ref (q12 i10)] (k_X0_init hω g15) (by intro w hw; simp only [List.mem_cons, List.not_mem_nil, or_false] at hw; rcases hw with rfl | rfl | rfl <;> first | exact (mT_2 55 rfl rfl) | exact (mT_2 56 rfl rfl) | exact (mT_1 13 rfl rfl)) (mT_2 57 rfl rfl) rfl ⟨by decide, by decide, (by decide : (parseMethodDescriptor yX0_init.desc).map (fun d => d.parameters.length) = some 3)⟩ ⟨Nat.le_of_ble_eq_true rfl, Nat.le_of_ble_eq_true rfl⟩ (by constructor <;> first | decide +kernel | (simp only [Nat.zero_add]; exact Nat.le_refl _)) rfl (Nat.le_of_ble_eq_true rfl) dX11_newSender_58 (fun L16 q16 E16 Q16 => ?_)
      rw [← Q16 i10 (sd_of hω b13.1) b13.2]
      exact x_retNA X R ⟨_, rfl⟩ (E12.tr E16) hf (by constructor <;> first | decide +kernel | (simp only [Nat.zero_add]; exact Nat.le_refl _)) dX11_newSender_61
    · replace hf := (if_neg s9).symm.trans hf
      by_cases s17 : p1 = (3 : Int32)
      · replace hf := (if_pos s17).symm.trans hf
        refine x_tswI X (off := 61) 62 dX11_newSender_1 s17 (by decide) (by decide) (by decide) (by decide) ?_
        obtain ⟨i18, ei18, hf⟩ := nm_some hf
        obtain ⟨h19, eh19, hf⟩ := nm_some hf
        refine xg_new X (ci := 2) (k := 3) (C := RX1) (T := TX1) (N := 3) (by decide) rfl fw_2 inA_2 (by intro w hw; simp only [List.mem_cons, List.not_mem_nil, or_false] at hw; rcases hw with rfl | rfl | rfl <;> first | exact (mT_2 63 rfl rfl) | exact (mT_2 64 rfl rfl) | exact (mT_1 14 rfl rfl)) (Or.inr ⟨rfl, kt0 rfl⟩) (by decide +kernel) (by constructor <;> first | decide +kernel | (simp only [Nat.zero_add]; exact Nat.le_refl _)) dX11_newSender_62 ei18 eh19 (fun L20 q20 E20 Q20 => ?_)
        refine x_dup X dX11_newSender_65 rfl ?_
        refine x_iload_n X dX11_newSender_66 0 rfl rfl ?_
        refine x_iload_n X dX11_newSender_67 1 rfl rfl ?_
        refine x_iload_n X dX11_newSender_68 2 rfl rfl ?_
        obtain ⟨b21, hf⟩ := ckW_some hf
        obtain ⟨h22, uh22, g23, hf⟩ := bnd_some hf
        refine x_callI X [.int p0, .int p1, .int p2] [.ref (q20 i18)] (k_X1_init hω g23) (by intro w hw; simp only [List.mem_cons, List.not_mem_nil, or_false] at hw; rcases hw with rfl | rfl | rfl <;> first | exact (mT_2 65 rfl rfl) | exact (mT_2 66 rfl rfl) | exact (mT_1 14 rfl rfl)) (mT_2 67 rfl rfl) rfl ⟨by decide, by decide, (by decide : (parseMethodDescriptor yX1_init.desc).map (fun d => d.parameters.length) = some 3)⟩ ⟨Nat.le_of_ble_eq_true rfl, Nat.le_of_ble_eq_true rfl⟩ (by constructor <;> first | decide +kernel | (simp only [Nat.zero_add]; exact Nat.le_refl _)) rfl (Nat.le_of_ble_eq_true rfl) dX11_newSender_69 (fun L24 q24 E24 Q24 => ?_)
        rw [← Q24 i18 (sd_of hω b21.1) b21.2]
        exact x_retNA X R ⟨_, rfl⟩ (E20.tr E24) hf (by constructor <;> first | decide +kernel | (simp only [Nat.zero_add]; exact Nat.le_refl _)) dX11_newSender_72
      · replace hf := (if_neg s17).symm.trans hf
        by_cases s25 : p1 = (4 : Int32)
        · replace hf := (if_pos s25).symm.trans hf
          refine x_tswI X (off := 72) 73 dX11_newSender_1 s25 (by decide) (by decide) (by decide) (by decide) ?_
          obtain ⟨i26, ei26, hf⟩ := nm_some hf
          obtain ⟨h27, eh27, hf⟩ := nm_some hf
          refine xg_new X (ci := 6) (k := 7) (C := RX5) (T := TX5) (N := 3) (by decide) rfl fw_6 inA_6 (by intro w hw; simp only [List.mem_cons, List.not_mem_nil, or_false] at hw; rcases hw with rfl | rfl | rfl <;> first | exact (mT_2 73 rfl rfl) | exact (mT_2 74 rfl rfl) | exact (mT_1 15 rfl rfl)) (Or.inr ⟨rfl, kt0 rfl⟩) (by decide +kernel) (by constructor <;> first | decide +kernel | (simp only [Nat.zero_add]; exact Nat.le_refl _)) dX11_newSender_73 ei26 eh27 (fun L28 q28 E28 Q28 => ?_)
          refine x_dup X dX11_newSender_76 rfl ?_
          refine x_iload_n X dX11_newSender_77 0 rfl rfl ?_
          refine x_iload_n X dX11_newSender_78 1 rfl rfl ?_
          refine x_iload_n X dX11_newSender_79 2 rfl rfl ?_
          obtain ⟨b29, hf⟩ := ckW_some hf
          obtain ⟨h30, uh30, g31, hf⟩ := bnd_some hf
          refine x_callI X [.int p0, .int p1, .int p2] [.ref (q28 i26)] (k_X5_init hω g31) (by intro w hw; simp only [List.mem_cons, List.not_mem_nil, or_false] at hw; rcases hw with rfl | rfl | rfl <;> first | exact (mT_2 75 rfl rfl) | exact (mT_2 76 rfl rfl) | exact (mT_1 15 rfl rfl)) (mT_2 77 rfl rfl) rfl ⟨by decide, by decide, (by decide : (parseMethodDescriptor yX5_init.desc).map (fun d => d.parameters.length) = some 3)⟩ ⟨Nat.le_of_ble_eq_true rfl, Nat.le_of_ble_eq_true rfl⟩ (by constructor <;> first | decide +kernel | (simp only [Nat.zero_add]; exact Nat.le_refl _)) rfl (Nat.le_of_ble_eq_true rfl) dX11_newSender_80 (fun L32 q32 E32 Q32 => ?_)
          rw [← Q32 i26 (sd_of hω b29.1) b29.2]
          exact x_retNA X R ⟨_, rfl⟩ (E28.tr E32) hf (by constructor <;> first | decide +kernel | (simp only [Nat.zero_add]; exact Nat.le_refl _)) dX11_newSender_83
        · replace hf := (if_neg s25).symm.trans hf
          by_cases s33 : p1 = (5 : Int32)
          · replace hf := (if_pos s33).symm.trans hf
            refine x_tswI X (off := 83) 84 dX11_newSender_1 s33 (by decide) (by decide) (by decide) (by decide) ?_
            obtain ⟨i34, ei34, hf⟩ := nm_some hf
            obtain ⟨h35, eh35, hf⟩ := nm_some hf
            refine xg_new X (ci := 11) (k := 12) (C := RX10) (T := TX10) (N := 3) (by decide) rfl fw_11 inA_11 (by intro w hw; simp only [List.mem_cons, List.not_mem_nil, or_false] at hw; rcases hw with rfl | rfl | rfl <;> first | exact (mT_2 83 rfl rfl) | exact (mT_2 84 rfl rfl) | exact (mT_1 16 rfl rfl)) (Or.inr ⟨rfl, kt0 rfl⟩) (by decide +kernel) (by constructor <;> first | decide +kernel | (simp only [Nat.zero_add]; exact Nat.le_refl _)) dX11_newSender_84 ei34 eh35 (fun L36 q36 E36 Q36 => ?_)
            refine x_dup X dX11_newSender_87 rfl ?_
            refine x_iload_n X dX11_newSender_88 0 rfl rfl ?_
            refine x_iload_n X dX11_newSender_89 1 rfl rfl ?_
            refine x_iload_n X dX11_newSender_90 2 rfl rfl ?_
            obtain ⟨b37, hf⟩ := ckW_some hf
            obtain ⟨h38, uh38, g39, hf⟩ := bnd_some hf
            refine x_callI X [.int p0, .int p1, .int p2] [.ref (q36 i34)] (k_X10_init hω g39) (by intro w hw; simp only [List.mem_cons, List.not_mem_nil, or_false] at hw; rcases hw with rfl | rfl | rfl <;> first | exact (mT_2 85 rfl rfl) | exact (mT_2 86 rfl rfl) | exact (mT_1 16 rfl rfl)) (mT_2 87 rfl rfl) rfl ⟨by decide, by decide, (by decide : (parseMethodDescriptor yX10_init.desc).map (fun d => d.parameters.length) = some 3)⟩ ⟨Nat.le_of_ble_eq_true rfl, Nat.le_of_ble_eq_true rfl⟩ (by constructor <;> first | decide +kernel | (simp only [Nat.zero_add]; exact Nat.le_refl _)) rfl (Nat.le_of_ble_eq_true rfl) dX11_newSender_91 (fun L40 q40 E40 Q40 => ?_)
            rw [← Q40 i34 (sd_of hω b37.1) b37.2]
            exact x_retNA X R ⟨_, rfl⟩ (E36.tr E40) hf (by constructor <;> first | decide +kernel | (simp only [Nat.zero_add]; exact Nat.le_refl _)) dX11_newSender_94
          · replace hf := (if_neg s33).symm.trans hf
            by_cases s41 : p1 = (6 : Int32)
            · replace hf := (if_pos s41).symm.trans hf
              refine x_tswI X (off := 94) 95 dX11_newSender_1 s41 (by decide) (by decide) (by decide) (by decide) ?_
              obtain ⟨i42, ei42, hf⟩ := nm_some hf
              obtain ⟨h43, eh43, hf⟩ := nm_some hf
              refine xg_new X (ci := 9) (k := 10) (C := RX8) (T := TX8) (N := 3) (by decide) rfl fw_9 inA_9 (by intro w hw; simp only [List.mem_cons, List.not_mem_nil, or_false] at hw; rcases hw with rfl | rfl | rfl <;> first | exact (mT_2 93 rfl rfl) | exact (mT_2 94 rfl rfl) | exact (mT_1 17 rfl rfl)) (Or.inr ⟨rfl, kt0 rfl⟩) (by decide +kernel) (by constructor <;> first | decide +kernel | (simp only [Nat.zero_add]; exact Nat.le_refl _)) dX11_newSender_95 ei42 eh43 (fun L44 q44 E44 Q44 => ?_)
              refine x_dup X dX11_newSender_98 rfl ?_
              refine x_iload_n X dX11_newSender_99 0 rfl rfl ?_
              refine x_iload_n X dX11_newSender_100 1 rfl rfl ?_
              refine x_iload_n X dX11_newSender_101 2 rfl rfl ?_
              obtain ⟨b45, hf⟩ := ckW_some hf
              obtain ⟨h46, uh46, g47, hf⟩ := bnd_some hf
              refine x_callI X [.int p0, .int p1, .int p2] [.ref (q44 i42)] (k_X8_init hω g47) (by intro w hw; simp only [List.mem_cons, List.not_mem_nil, or_false] at hw; rcases hw with rfl | rfl | rfl <;> first | exact (mT_2 95 rfl rfl) | exact (mT_2 96 rfl rfl) | exact (mT_1 17 rfl rfl)) (mT_2 97 rfl rfl) rfl ⟨by decide, by decide, (by decide : (parseMethodDescriptor yX8_init.desc).map (fun d => d.parameters.length) = some 3)⟩ ⟨Nat.le_of_ble_eq_true rfl, Nat.le_of_ble_eq_true rfl⟩ (by constructor <;> first | decide +kernel | (simp only [Nat.zero_add]; exact Nat.le_refl _)) rfl (Nat.le_of_ble_eq_true rfl) dX11_newSender_102 (fun L48 q48 E48 Q48 => ?_)
              rw [← Q48 i42 (sd_of hω b45.1) b45.2]
              exact x_retNA X R ⟨_, rfl⟩ (E44.tr E48) hf (by constructor <;> first | decide +kernel | (simp only [Nat.zero_add]; exact Nat.le_refl _)) dX11_newSender_105
            · replace hf := (if_neg s41).symm.trans hf
              refine x_tswO X 106 dX11_newSender_1 (by have := lv_neT s1 (a := 1) (by decide); have := lv_neT s9 (a := 2) (by decide); have := lv_neT s17 (a := 3) (by decide); have := lv_neT s25 (a := 4) (by decide); have := lv_neT s33 (a := 5) (by decide); have := lv_neT s41 (a := 6) (by decide); omega) (by decide) ?_
              obtain ⟨i49, ei49, hf⟩ := nm_some hf
              obtain ⟨h50, eh50, hf⟩ := nm_some hf
              refine xg_new X (ci := 5) (k := 6) (C := RX4) (T := TX4) (N := 3) (by decide) rfl fw_5 inA_5 (by intro w hw; simp only [List.mem_cons, List.not_mem_nil, or_false] at hw; rcases hw with rfl | rfl | rfl <;> first | exact (mT_2 103 rfl rfl) | exact (mT_2 104 rfl rfl) | exact (mT_1 11 rfl rfl)) (Or.inr ⟨rfl, kt0 rfl⟩) (by decide +kernel) (by constructor <;> first | decide +kernel | (simp only [Nat.zero_add]; exact Nat.le_refl _)) dX11_newSender_106 ei49 eh50 (fun L51 q51 E51 Q51 => ?_)
              refine x_dup X dX11_newSender_109 rfl ?_
              refine x_iload_n X dX11_newSender_110 0 rfl rfl ?_
              refine x_iconst X (v := 0) dX11_newSender_111 (by decide) ?_
              refine x_iload_n X dX11_newSender_112 2 rfl rfl ?_
              obtain ⟨b52, hf⟩ := ckW_some hf
              obtain ⟨h53, uh53, g54, hf⟩ := bnd_some hf
              refine x_callI X [.int p0, .int (0 : Int32), .int p2] [.ref (q51 i49)] (k_X4_init hω g54) (by intro w hw; simp only [List.mem_cons, List.not_mem_nil, or_false] at hw; rcases hw with rfl | rfl | rfl <;> first | exact (mT_2 105 rfl rfl) | exact (mT_2 34 rfl rfl) | exact (mT_1 11 rfl rfl)) (mT_2 35 rfl rfl) rfl ⟨by decide, by decide, (by decide : (parseMethodDescriptor yX4_init.desc).map (fun d => d.parameters.length) = some 3)⟩ ⟨Nat.le_of_ble_eq_true rfl, Nat.le_of_ble_eq_true rfl⟩ (by constructor <;> first | decide +kernel | (simp only [Nat.zero_add]; exact Nat.le_refl _)) rfl (Nat.le_of_ble_eq_true rfl) dX11_newSender_113 (fun L55 q55 E55 Q55 => ?_)
              rw [← Q55 i49 (sd_of hω b52.1) b52.2]
              exact x_retNA X R ⟨_, rfl⟩ (E51.tr E55) hf (by constructor <;> first | decide +kernel | (simp only [Nat.zero_add]; exact Nat.le_refl _)) dX11_newSender_116
theorem mt_X11_newSender : MS yX11_newSender cX11_newSender 3 (some (.object "SignalBlind$Sender")) 3 := ⟨(mT_2 26 rfl rfl), (mT_1 1 rfl rfl), (mT_2 27 rfl rfl), by decide⟩
abbrev rm_X11_sender : Room := { frames := 5, cells := 1, slots := 3, locals := 111 }
set_option maxRecDepth 100000 in
def f_X11_sender (h : hp) (p0 : Int32) (p1 : Int32) : Option (hp × Int32) := (if p0 < 0 then
 (some (h, (-1 : Int32)))
 else
 (if p0 < (7 : Int32) then
 (bnr (f_X11_isDigit h p1) fun r3 =>
 (if r3 = 0 then
 (some (h, (-2 : Int32)))
 else
 (if (hI h 1 2) < (5 : Int32) then
 (bnd (f_X11_newSender h (hI h 1 2) p0 p1) fun h7 r8 =>
 (bnd (f_X3_join h7 1 r8) fun h11 r12 =>
 (some (h11, r12))))
 else
 (some (h, (-4 : Int32))))))
 else
 (some (h, (-1 : Int32)))))
set_option maxRecDepth 100000 in
set_option maxHeartbeats 4000000 in
theorem k_X11_sender {ω : XO} (hω : ω.2.2.2.1 = 1) {L : List Nat} {q : Nat → Nat} {h h' : hp} {p0 : Int32} {p1 : Int32} {r : Int32} (hf : f_X11_sender h p0 p1 = some (h', r)) : XMn ω yX11_sender cX11_sender 3 (some .int) rm_X11_sender L q h [.ref (q 0), .int p0, .int p1] (fun _ => some (.int r)) h' := by
  refine XMn_intro [(0, .ref (q 0)), (1, .int p0), (2, .int p1)] "SignalBlind" (by decide) rfl rfl (Nat.le_of_ble_eq_true rfl) (fun κ X R hini => ?_)
  unfold f_X11_sender at hf
  refine x_iload_n X dX11_sender_0 1 rfl rfl ?_
  refine x_if_lt X 10 dX11_sender_1 (by decide) (fun c1 => ?_) (fun c1 => ?_)
  · replace hf := (if_pos c1).symm.trans hf
    refine x_iconst X (v := -1) dX11_sender_10 (by decide) ?_
    exact x_retNI X R Ext.rf hf (by constructor <;> first | decide +kernel | (simp only [Nat.zero_add]; exact Nat.le_refl _)) dX11_sender_11
  · replace hf := (if_neg c1).symm.trans hf
    refine x_iload_n X dX11_sender_4 1 rfl rfl ?_
    refine x_bipush X (v := 7) dX11_sender_5 (by decide) ?_
    refine x_icmp_lt X 12 dX11_sender_7 (by decide) (fun c2 => ?_) (fun c2 => ?_)
    · replace hf := (if_pos c2).symm.trans hf
      refine x_iload_n X dX11_sender_12 2 rfl rfl ?_
      obtain ⟨r3, g4, hf⟩ := bnr_some hf
      refine c_X11_98 X hω g4 (hR := ⟨Nat.le_of_ble_eq_true rfl, Nat.le_of_ble_eq_true rfl⟩) (by constructor <;> first | decide +kernel | (simp only [Nat.zero_add]; exact Nat.le_refl _)) (Nat.le_of_ble_eq_true rfl) dX11_sender_13 ?_
      refine x_if_ne X 22 dX11_sender_16 (by decide) (fun c5 => ?_) (fun c5 => ?_)
      · replace hf := (if_pos c5).symm.trans hf
        refine x_bipush X (v := -2) dX11_sender_19 (by decide) ?_
        exact x_retNI X R Ext.rf hf (by constructor <;> first | decide +kernel | (simp only [Nat.zero_add]; exact Nat.le_refl _)) dX11_sender_21
      · replace hf := (if_neg c5).symm.trans hf
        refine x_aload_n X dX11_sender_22 0 rfl rfl ?_
        refine x_getsj X (i := 0) 1 fl_X11_14_12 (sdX_0 hω) (ks_0 _) rfl (j := 1) rfl dX11_sender_23 ?_
        refine x_geti X (i := 1) fl_X11_101_4 (sdX_1 hω) (ks_1 _) rfl dX11_sender_26 ?_
        refine x_iconst X (v := 5) dX11_sender_29 (by decide) ?_
        refine x_icmp_lt X 36 dX11_sender_30 (by decide) (fun c6 => ?_) (fun c6 => ?_)
        · replace hf := (if_pos c6).symm.trans hf
          refine x_aload_n X dX11_sender_36 0 rfl rfl ?_
          refine x_getsj X (i := 0) 1 fl_X11_14_12 (sdX_0 hω) (ks_0 _) rfl (j := 1) rfl dX11_sender_37 ?_
          refine x_aload_n X dX11_sender_40 0 rfl rfl ?_
          refine x_getsj X (i := 0) 1 fl_X11_14_12 (sdX_0 hω) (ks_0 _) rfl (j := 1) rfl dX11_sender_41 ?_
          refine x_geti X (i := 1) fl_X11_101_4 (sdX_1 hω) (ks_1 _) rfl dX11_sender_44 ?_
          refine x_iload_n X dX11_sender_47 1 rfl rfl ?_
          refine x_iload_n X dX11_sender_48 2 rfl rfl ?_
          obtain ⟨h7, r8, g9, hf⟩ := bnd_some hf
          refine x_callSn (v := fun q => .ref (q r8)) X [.int (hI h 1 2), .int p0, .int p1] [.ref (q 1)] (k_X11_newSender hω g9) mt_X11_newSender (mT_2 25 rfl rfl) ⟨Nat.le_of_ble_eq_true rfl, Nat.le_of_ble_eq_true rfl⟩ (by constructor <;> first | decide +kernel | (simp only [Nat.zero_add]; exact Nat.le_refl _)) rfl (Nat.le_of_ble_eq_true rfl) dX11_sender_49 (fun L10 q10 E10 Q10 => ?_)
          rw [← Q10 0 (sdX_0 hω) (by rw [ks_0]; decide)]
          rw [← Q10 1 (sdX_1 hω) (by rw [ks_1]; decide)]
          obtain ⟨h11, r12, g13, hf⟩ := bnd_some hf
          refine c_X11_108 X hω g13 (sdX_1 hω) (ks_1 _) (hR := ⟨Nat.le_of_ble_eq_true rfl, Nat.le_of_ble_eq_true rfl⟩) (by constructor <;> first | decide +kernel | (simp only [Nat.zero_add]; exact Nat.le_refl _)) (Nat.le_of_ble_eq_true rfl) dX11_sender_52 ?_
          exact x_retNI X R E10 hf (by constructor <;> first | decide +kernel | (simp only [Nat.zero_add]; exact Nat.le_refl _)) dX11_sender_55
        · replace hf := (if_neg c6).symm.trans hf
          refine x_bipush X (v := -4) dX11_sender_33 (by decide) ?_
          exact x_retNI X R Ext.rf hf (by constructor <;> first | decide +kernel | (simp only [Nat.zero_add]; exact Nat.le_refl _)) dX11_sender_35
    · replace hf := (if_neg c2).symm.trans hf
      refine x_iconst X (v := -1) dX11_sender_10 (by decide) ?_
      exact x_retNI X R Ext.rf hf (by constructor <;> first | decide +kernel | (simp only [Nat.zero_add]; exact Nat.le_refl _)) dX11_sender_11
theorem mt_X11_sender : MT yX11_sender cX11_sender 3 (some .int) "SignalBlind" 2 := ⟨(mT_2 19 rfl rfl), (mT_2 20 rfl rfl), (mT_1 1 rfl rfl), (mT_2 21 rfl rfl), by decide⟩
abbrev rm_X11_ward : Room := { frames := 29, cells := 5, slots := 139, locals := 735 }
set_option maxRecDepth 100000 in
def f_X11_ward (h : hp) : Option (hp × Int32) := (if (hI h 0 5) < (6 : Int32) then
 (onO (hR h 0 4) none fun i2 =>
 (ckO 1 h i2 11
 (bnd (f_X9_parse h i2 25) fun h4 r5 =>
 (bnd (f_X2_clear h4 25) fun h7 _ =>
 (if r5 < 0 then
 (ckV h7 (hR h7 0 4)
 (nm (sR h7 1 9 (hR h7 0 4)) fun h11 =>
 (nm (nid h11) fun i12 =>
 (nm (nwk h11 (20 + 10)) fun h13 =>
 (ckW h13 i12
 (bnd (f_X9_init h13 i12) fun h16 _ =>
 (ckV h16 (some i12)
 (nm (sR h16 0 4 (some i12)) fun h20 =>
 (nm (sI h20 0 5 ((hI h20 0 5) + (1 : Int32))) fun h21 =>
 (some (h21, ((hI h21 0 5) - (1 : Int32)))))))))))))
 else
 (some (h7, ((-10 : Int32) - r5))))))))
 else
 (some (h, (-4 : Int32))))
set_option maxRecDepth 100000 in
set_option maxHeartbeats 4000000 in
theorem k_X11_ward {ω : XO} (hω : ω.2.2.2.1 = 1) {L : List Nat} {q : Nat → Nat} {h h' : hp}  {r : Int32} (hf : f_X11_ward h = some (h', r)) : XMn ω yX11_ward cX11_ward 2 (some .int) rm_X11_ward L q h [.ref (q 0)] (fun _ => some (.int r)) h' := by
  refine XMn_intro [(0, .ref (q 0))] "SignalBlind" (by decide) rfl rfl (Nat.le_of_ble_eq_true rfl) (fun κ X R hini => ?_)
  unfold f_X11_ward at hf
  refine x_aload_n X dX11_ward_0 0 rfl rfl ?_
  refine x_geti X (i := 0) fl_X11_41_12 (sdX_0 hω) (ks_0 _) rfl dX11_ward_1 ?_
  refine x_bipush X (v := 6) dX11_ward_4 (by decide) ?_
  refine x_icmp_lt X 12 dX11_ward_6 (by decide) (fun c1 => ?_) (fun c1 => ?_)
  · replace hf := (if_pos c1).symm.trans hf
    refine x_aload_n X dX11_ward_12 0 rfl rfl ?_
    refine x_getr X (i := 0) fl_X11_37_12 (sdX_0 hω) (ks_0 _) rfl dX11_ward_13 ?_
    obtain ⟨i2, ei2, hf⟩ := onO_some hf
    refine x_nn ei2 ?_
    refine x_aload_n X dX11_ward_16 0 rfl rfl ?_
    refine x_getsj X (i := 0) 25 fl_X11_32_12 (sdX_0 hω) (ks_0 _) rfl (j := 25) rfl dX11_ward_17 ?_
    obtain ⟨b3, hf⟩ := ckO_some hf
    obtain ⟨h4, r5, g6, hf⟩ := bnd_some hf
    refine c_X11_148 X hω g6 (sd_of hω b3.1) b3.2 (hR := ⟨Nat.le_of_ble_eq_true rfl, Nat.le_of_ble_eq_true rfl⟩) (by constructor <;> first | decide +kernel | (simp only [Nat.zero_add]; exact Nat.le_refl _)) (Nat.le_of_ble_eq_true rfl) dX11_ward_20 ?_
    refine x_istore_n X [(1, .int r5), (0, .ref (q 0))] dX11_ward_23 rfl (Nat.le_of_ble_eq_true rfl) rfl ?_
    refine x_aload_n X dX11_ward_24 1 rfl rfl ?_
    refine x_getsj X (i := 0) 25 fl_X11_32_12 (sdX_0 hω) (ks_0 _) rfl (j := 25) rfl dX11_ward_25 ?_
    obtain ⟨h7, uh7, g8, hf⟩ := bnd_some hf
    refine c_X11_152 X hω g8 (sdX_25 hω) (ks_25 _) (hR := ⟨Nat.le_of_ble_eq_true rfl, Nat.le_of_ble_eq_true rfl⟩) (by constructor <;> first | decide +kernel | (simp only [Nat.zero_add]; exact Nat.le_refl _)) (Nat.le_of_ble_eq_true rfl) dX11_ward_28 ?_
    refine x_iload_n X dX11_ward_31 0 rfl rfl ?_
    refine x_if_lt X 40 dX11_ward_32 (by decide) (fun c9 => ?_) (fun c9 => ?_)
    · replace hf := (if_pos c9).symm.trans hf
      refine x_aload_n X dX11_ward_40 1 rfl rfl ?_
      refine x_getsj X (i := 0) 1 fl_X11_14_12 (sdX_0 hω) (ks_0 _) rfl (j := 1) rfl dX11_ward_41 ?_
      refine x_aload_n X dX11_ward_44 1 rfl rfl ?_
      refine x_getr X (i := 0) fl_X11_37_12 (sdX_0 hω) (ks_0 _) rfl dX11_ward_45 ?_
      obtain ⟨b10, hf⟩ := ckV_some hf
      refine x_putrN X (i := 1) (o := (hR h7 0 4)) fl_X11_155_4 fw_4 (sdX_1 hω) (ks_1 _) rfl rfl (lv_of hω b10) rfl dX11_ward_48 ?_
      obtain ⟨h11, eh11, hf⟩ := nm_some hf
      refine x_nmh eh11 ?_
      refine x_aload_n X dX11_ward_51 1 rfl rfl ?_
      obtain ⟨i12, ei12, hf⟩ := nm_some hf
      obtain ⟨h13, eh13, hf⟩ := nm_some hf
      refine xg_new X (ci := 10) (k := (20 + 10)) (C := RX9) (T := TX9) (N := 9) (by decide) rfl fw_10 inA_10 (by intro w hw; simp only [List.mem_cons, List.not_mem_nil, or_false] at hw; rcases hw with rfl | rfl | rfl <;> first | exact (mT_1 103 rfl rfl) | exact (mT_1 104 rfl rfl) | exact (mT_1 4 rfl rfl)) (Or.inl rfl) (by decide +kernel) (by constructor <;> first | decide +kernel | (simp only [Nat.zero_add]; exact Nat.le_refl _)) dX11_ward_52 ei12 eh13 (fun L14 q14 E14 Q14 => ?_)
      rw [← Q14 0 (sdX_0 hω) (by rw [ks_0]; decide)]
      refine x_dup X dX11_ward_55 rfl ?_
      obtain ⟨b15, hf⟩ := ckW_some hf
      obtain ⟨h16, uh16, g17, hf⟩ := bnd_some hf
      refine x_callIN X [] [.ref (q14 i12), .ref (q14 0)] (k_X9_init hω g17) (host := "SignalBlind") (by simp [nwM]) (by intro w hw; simp only [List.mem_cons, List.not_mem_nil, or_false] at hw; rcases hw with rfl | rfl <;> first | exact (mT_1 106 rfl rfl) | exact (mT_1 4 rfl rfl)) (mT_1 107 rfl rfl) rfl ⟨by decide, by decide, (by decide : (parseMethodDescriptor yX9_init.desc).map (fun d => d.parameters.length) = some 0)⟩ ⟨Nat.le_of_ble_eq_true rfl, Nat.le_of_ble_eq_true rfl⟩ (by constructor <;> first | decide +kernel | (simp only [Nat.zero_add]; exact Nat.le_refl _)) rfl (Nat.le_of_ble_eq_true rfl) dX11_ward_56 (fun L18 q18 E18 Q18 => ?_)
      rw [← Q18 0 (sdX_0 hω) (by rw [ks_0]; decide)]
      rw [← Q18 i12 (sd_of hω b15.1) b15.2]
      obtain ⟨b19, hf⟩ := ckV_some hf
      refine x_putr X (i := 0) (o := (some i12)) fl_X11_37_12 fw_12 (sdX_0 hω) (ks_0 _) rfl rfl (lv_of hω b19) rfl rfl rfl dX11_ward_59 ?_
      obtain ⟨h20, eh20, hf⟩ := nm_some hf
      refine x_nmh eh20 ?_
      refine x_aload_n X dX11_ward_62 1 rfl rfl ?_
      refine x_dup X dX11_ward_63 rfl ?_
      refine x_geti X (i := 0) fl_X11_41_12 (sdX_0 hω) (ks_0 _) rfl dX11_ward_64 ?_
      refine x_iconst X (v := 1) dX11_ward_67 (by decide) ?_
      refine x_iadd X dX11_ward_68 ?_
      refine x_puti X (i := 0) fl_X11_41_12 fw_12 (sdX_0 hω) (ks_0 _) rfl rfl rfl rfl dX11_ward_69 ?_
      obtain ⟨h21, eh21, hf⟩ := nm_some hf
      refine x_nmh eh21 ?_
      refine x_aload_n X dX11_ward_72 1 rfl rfl ?_
      refine x_geti X (i := 0) fl_X11_41_12 (sdX_0 hω) (ks_0 _) rfl dX11_ward_73 ?_
      refine x_iconst X (v := 1) dX11_ward_76 (by decide) ?_
      refine x_isub X dX11_ward_77 ?_
      exact x_retNI X R (E14.tr E18) hf (by constructor <;> first | decide +kernel | (simp only [Nat.zero_add]; exact Nat.le_refl _)) dX11_ward_78
    · replace hf := (if_neg c9).symm.trans hf
      refine x_bipush X (v := -10) dX11_ward_35 (by decide) ?_
      refine x_iload_n X dX11_ward_37 0 rfl rfl ?_
      refine x_isub X dX11_ward_38 ?_
      exact x_retNI X R Ext.rf hf (by constructor <;> first | decide +kernel | (simp only [Nat.zero_add]; exact Nat.le_refl _)) dX11_ward_39
  · replace hf := (if_neg c1).symm.trans hf
    refine x_bipush X (v := -4) dX11_ward_9 (by decide) ?_
    exact x_retNI X R Ext.rf hf (by constructor <;> first | decide +kernel | (simp only [Nat.zero_add]; exact Nat.le_refl _)) dX11_ward_11
theorem mt_X11_ward : MT yX11_ward cX11_ward 2 (some .int) "SignalBlind" 0 := ⟨(mT_2 233 rfl rfl), (mT_2 234 rfl rfl), (mT_1 1 rfl rfl), (mT_2 235 rfl rfl), by decide⟩
