def nm {α β : Type} (v : α) (k : α → Option β) : Option β := k v
theorem nm_some {α β : Type} {v : α} {k : α → Option β} {r : β} (h : nm v k = some r) : ∃ x : α, x = v ∧ k x = some r := ⟨v, rfl, h⟩
theorem x_nmI {ω : XO} {rm : Room} {nL : Nat} {κ : XK} {L : List Nat} {q : Nat → Nat} {h : hp} {cells slots pc : Nat} {lv : List (Nat × Value)} {rest : List Value} {x v : Int32} (e : x = v) (k : XG ω rm nL κ L q h cells slots pc lv (.int x :: rest)) : XG ω rm nL κ L q h cells slots pc lv (.int v :: rest) := by subst e; exact k
theorem x_nmL {ω : XO} {rm : Room} {nL : Nat} {κ : XK} {L : List Nat} {q : Nat → Nat} {h : hp} {cells slots pc : Nat} {lv : List (Nat × Value)} {rest : List Value} {x v : Int64} (e : x = v) (k : XG ω rm nL κ L q h cells slots pc lv (.long x :: rest)) : XG ω rm nL κ L q h cells slots pc lv (.long v :: rest) := by subst e; exact k
theorem x_nmh {ω : XO} {rm : Room} {nL : Nat} {κ : XK} {L : List Nat} {q : Nat → Nat} {h h1 : hp} {cells slots pc : Nat} {lv : List (Nat × Value)} {rest : List Value} (e : h1 = h) (k : XG ω rm nL κ L q h1 cells slots pc lv rest) : XG ω rm nL κ L q h cells slots pc lv rest := by subst e; exact k
theorem x_iincN {ω : XO} {rm : Room} {nL : Nat} {κ : XK} {cc : ByteArray} {own : String} (X : XC ω rm nL κ cc own) {L : List Nat} {q : Nat → Nat} {h : hp} {cells slots pc : Nat} {lv : List (Nat × Value)} {rest : List Value} {i : Nat} {n : Int} {x v y : Int32} (e : y = x + v) (lv' : List (Nat × Value)) (hd : decode cc pc = .ok (.iinc i n, 3)) (j : Nat) (hj : lv[j]? = some (i, .int x)) (hv : Int32.ofInt n = v) (hn : i < nL) (hw : (i, Value.int y) :: lv.filter (fun q => !(q.1 == i) && !(q.1 + 1 == i && q.2.category == 2)) = lv') (k : XG ω rm nL κ L q h cells slots (pc + 3) lv' rest) : XG ω rm nL κ L q h cells slots pc lv rest := by
  subst e; exact x_iinc X v lv' hd j hj hv hn hw k
theorem x_getsj {ω : XO} {rm : Room} {nL : Nat} {κ : XK} {cc : ByteArray} {own : String} (X : XC ω rm nL κ cc own) {L : List Nat} {q : Nat → Nat} {h : hp} {cells slots pc : Nat} {lv : List (Nat × Value)} {rest : List Value} {i k ci idx : Nat} {rf C : String} {T : u_T} {N : Nat} (n : Nat) (F : FL own idx ci k rf C T N) (hs : sd ω.2.2.2.1 i = true) (hk : kdOf h i = ci + 1) (hf : (ktF ci)[k]? = some (n + 2)) {j : Nat} (hj : i + n = j) (hd : decode cc pc = .ok (.getfield idx, 3)) (kk : XG ω rm nL κ L q h cells slots (pc + 3) lv (.ref (q j) :: rest)) : XG ω rm nL κ L q h cells slots pc lv (.ref (q i) :: rest) := by
  subst hj; exact x_gets X n F hs hk hf hd kk
theorem sd_of {ω : XO} {b : Nat} (hω : ω.2.2.2.1 = b) {i : Nat} (h : sd b i = true) : sd ω.2.2.2.1 i = true := by rw [hω]; exact h
def ckZ {α : Type} (v : Int32) (a : Option α) : Option α := if v = 0 ∨ v = 1 then a else none
theorem ckZ_some {α : Type} {v : Int32} {a : Option α} {r : α} (h : ckZ v a = some r) : narrow .boolean (.int v) = .int v ∧ a = some r := by
  unfold ckZ at h
  by_cases hc : v = 0 ∨ v = 1
  · rw [if_pos hc] at h
    rcases hc with rfl | rfl
    · exact ⟨by decide, h⟩
    · exact ⟨by decide, h⟩
  · rw [if_neg hc] at h; cases h
theorem x_retSI {ω : XO} {rm : Room} {nL : Nat} {κ : XK} {cc : ByteArray} {own : String} (X : XC ω rm nL κ cc own) {L : List Nat} {q : Nat → Nat} {h h' : hp} {r v : Int32} (R : XRet ω rm κ (some .int) L q h' (some (.int r))) (hf : some (h, v) = some (h', r)) {pc : Nat} {lv : List (Nat × Value)} (hd : decode cc pc = .ok (.ireturn, 1)) : XG ω rm nL κ L q h 0 0 pc lv [.int v] := by
  obtain ⟨e1, e2⟩ := Prod.mk.injEq .. ▸ Option.some.inj hf
  subst e1; subst e2
  exact x_ret X R (Nat.zero_le _) (Nat.zero_le _) (Or.inl rfl) hd
theorem x_retRI {ω : XO} {rm : Room} {nL : Nat} {κ : XK} {cc : ByteArray} {own : String} (X : XC ω rm nL κ cc own) {L : List Nat} {q : Nat → Nat} {h : hp} {r v : Int32} (R : XRet ω rm κ (some .int) L q h (some (.int r))) (hf : some v = some r) {pc : Nat} {lv : List (Nat × Value)} (hd : decode cc pc = .ok (.ireturn, 1)) : XG ω rm nL κ L q h 0 0 pc lv [.int v] := by
  cases hf
  exact x_ret X R (Nat.zero_le _) (Nat.zero_le _) (Or.inl rfl) hd
theorem x_retSZ {ω : XO} {rm : Room} {nL : Nat} {κ : XK} {cc : ByteArray} {own : String} (X : XC ω rm nL κ cc own) {L : List Nat} {q : Nat → Nat} {h h' : hp} {r v : Int32} (R : XRet ω rm κ (some .boolean) L q h' (some (.int r))) (hn : narrow .boolean (.int v) = .int v) (hf : some (h, v) = some (h', r)) {pc : Nat} {lv : List (Nat × Value)} (hd : decode cc pc = .ok (.ireturn, 1)) : XG ω rm nL κ L q h 0 0 pc lv [.int v] := by
  obtain ⟨e1, e2⟩ := Prod.mk.injEq .. ▸ Option.some.inj hf
  subst e1; subst e2
  exact x_ret X R (Nat.zero_le _) (Nat.zero_le _) (Or.inr (Or.inl ⟨rfl, hn⟩)) hd
theorem x_retRZ {ω : XO} {rm : Room} {nL : Nat} {κ : XK} {cc : ByteArray} {own : String} (X : XC ω rm nL κ cc own) {L : List Nat} {q : Nat → Nat} {h : hp} {r v : Int32} (R : XRet ω rm κ (some .boolean) L q h (some (.int r))) (hn : narrow .boolean (.int v) = .int v) (hf : some v = some r) {pc : Nat} {lv : List (Nat × Value)} (hd : decode cc pc = .ok (.ireturn, 1)) : XG ω rm nL κ L q h 0 0 pc lv [.int v] := by
  cases hf
  exact x_ret X R (Nat.zero_le _) (Nat.zero_le _) (Or.inr (Or.inl ⟨rfl, hn⟩)) hd
theorem x_retSL {ω : XO} {rm : Room} {nL : Nat} {κ : XK} {cc : ByteArray} {own : String} (X : XC ω rm nL κ cc own) {L : List Nat} {q : Nat → Nat} {h h' : hp} {r v : Int64} (R : XRet ω rm κ (some .long) L q h' (some (.long r))) (hf : some (h, v) = some (h', r)) {pc : Nat} {lv : List (Nat × Value)} (hd : decode cc pc = .ok (.lreturn, 1)) : XG ω rm nL κ L q h 0 0 pc lv [.long v] := by
  obtain ⟨e1, e2⟩ := Prod.mk.injEq .. ▸ Option.some.inj hf
  subst e1; subst e2
  exact x_lret X R (Nat.zero_le _) (Nat.zero_le _) hd
theorem x_retRL {ω : XO} {rm : Room} {nL : Nat} {κ : XK} {cc : ByteArray} {own : String} (X : XC ω rm nL κ cc own) {L : List Nat} {q : Nat → Nat} {h : hp} {r v : Int64} (R : XRet ω rm κ (some .long) L q h (some (.long r))) (hf : some v = some r) {pc : Nat} {lv : List (Nat × Value)} (hd : decode cc pc = .ok (.lreturn, 1)) : XG ω rm nL κ L q h 0 0 pc lv [.long v] := by
  cases hf
  exact x_lret X R (Nat.zero_le _) (Nat.zero_le _) hd
theorem x_retV {ω : XO} {rm : Room} {nL : Nat} {κ : XK} {cc : ByteArray} {own : String} (X : XC ω rm nL κ cc own) {L : List Nat} {q : Nat → Nat} {h h' : hp} {r v : Unit} (R : XRet ω rm κ none L q h' none) (hf : some (h, v) = some (h', r)) {pc : Nat} {lv : List (Nat × Value)} (hd : decode cc pc = .ok (.return_, 1)) : XG ω rm nL κ L q h 0 0 pc lv [] := by
  obtain ⟨e1, -⟩ := Prod.mk.injEq .. ▸ Option.some.inj hf
  subst e1
  exact x_vret X R (Nat.zero_le _) (Nat.zero_le _) hd
-- ===== the classes' words, the numbers' kinds =====
theorem memF {big ws : List Cond} (is : List Nat) (h : ws = is.filterMap (fun i => big[i]?)) : ∀ w ∈ ws, w ∈ big := by
  intro w hw
  rw [h] at hw
  obtain ⟨i, -, hi⟩ := List.mem_filterMap.mp hw
  exact List.mem_of_getElem? hi
theorem inA_0 : ∀ w ∈ u_ws RJ4 TJ4 4, w ∈ ALLW := fun w hw => mT (memF (big := tables_1) [162, 164, 166, 168] (by decide +kernel) w hw) (List.all_eq_true.mp (by decide +kernel : (u_ws RJ4 TJ4 4).all goodWord = true) w hw)
theorem fw_0 : FW RJ4 TJ4 4 tyJ4 := ⟨tyJ4_ok, nmJ4⟩
theorem inA_1 : ∀ w ∈ u_ws RX0 TX0 3, w ∈ ALLW := fun w hw => mT (memF (big := tables_1) [299, 300, 301] (by decide +kernel) w hw) (List.all_eq_true.mp (by decide +kernel : (u_ws RX0 TX0 3).all goodWord = true) w hw)
theorem fw_1 : FW RX0 TX0 3 tyX0 := ⟨tyX0_ok, nmX0⟩
theorem inA_2 : ∀ w ∈ u_ws RX1 TX1 3, w ∈ ALLW := fun w hw => mT (memF (big := tables_1) [309, 310, 311] (by decide +kernel) w hw) (List.all_eq_true.mp (by decide +kernel : (u_ws RX1 TX1 3).all goodWord = true) w hw)
theorem fw_2 : FW RX1 TX1 3 tyX1 := ⟨tyX1_ok, nmX1⟩
theorem inA_3 : ∀ w ∈ u_ws RX2 TX2 2, w ∈ ALLW := fun w hw => mT (memF (big := tables_1) [52, 54] (by decide +kernel) w hw) (List.all_eq_true.mp (by decide +kernel : (u_ws RX2 TX2 2).all goodWord = true) w hw)
theorem fw_3 : FW RX2 TX2 2 tyX2 := ⟨tyX2_ok, nmX2⟩
theorem inA_4 : ∀ w ∈ u_ws RX3 TX3 10, w ∈ ALLW := fun w hw => mT (memF (big := tables_1) [80, 82, 84, 86, 88, 90, 92, 94, 96, 98] (by decide +kernel) w hw) (List.all_eq_true.mp (by decide +kernel : (u_ws RX3 TX3 10).all goodWord = true) w hw)
theorem fw_4 : FW RX3 TX3 10 tyX3 := ⟨tyX3_ok, nmX3⟩
theorem inA_5 : ∀ w ∈ u_ws RX4 TX4 3, w ∈ ALLW := fun w hw => mT (memF (big := tables_1) [346, 347, 348] (by decide +kernel) w hw) (List.all_eq_true.mp (by decide +kernel : (u_ws RX4 TX4 3).all goodWord = true) w hw)
theorem fw_5 : FW RX4 TX4 3 tyX4 := ⟨tyX4_ok, nmX4⟩
theorem inA_6 : ∀ w ∈ u_ws RX5 TX5 3, w ∈ ALLW := fun w hw => mT (memF (big := tables_1) [319, 320, 321] (by decide +kernel) w hw) (List.all_eq_true.mp (by decide +kernel : (u_ws RX5 TX5 3).all goodWord = true) w hw)
theorem fw_6 : FW RX5 TX5 3 tyX5 := ⟨tyX5_ok, nmX5⟩
theorem inA_7 : ∀ w ∈ u_ws RX6 TX6 3, w ∈ ALLW := fun w hw => mT (memF (big := tables_1) [182, 184, 186] (by decide +kernel) w hw) (List.all_eq_true.mp (by decide +kernel : (u_ws RX6 TX6 3).all goodWord = true) w hw)
theorem fw_7 : FW RX6 TX6 3 tyX6 := ⟨tyX6_ok, nmX6⟩
theorem inA_8 : ∀ w ∈ u_ws RX7 TX7 3, w ∈ ALLW := fun w hw => mT (memF (big := tables_1) [286, 288, 290] (by decide +kernel) w hw) (List.all_eq_true.mp (by decide +kernel : (u_ws RX7 TX7 3).all goodWord = true) w hw)
theorem fw_8 : FW RX7 TX7 3 tyX7 := ⟨tyX7_ok, nmX7⟩
theorem inA_9 : ∀ w ∈ u_ws RX8 TX8 3, w ∈ ALLW := fun w hw => mT (memF (big := tables_1) [339, 340, 341] (by decide +kernel) w hw) (List.all_eq_true.mp (by decide +kernel : (u_ws RX8 TX8 3).all goodWord = true) w hw)
theorem fw_9 : FW RX8 TX8 3 tyX8 := ⟨tyX8_ok, nmX8⟩
theorem inA_10 : ∀ w ∈ u_ws RX9 TX9 9, w ∈ ALLW := fun w hw => mT (memF (big := tables_1) [119, 121, 123, 125, 127, 129, 131, 133, 135] (by decide +kernel) w hw) (List.all_eq_true.mp (by decide +kernel : (u_ws RX9 TX9 9).all goodWord = true) w hw)
theorem fw_10 : FW RX9 TX9 9 tyX9 := ⟨tyX9_ok, nmX9⟩
theorem inA_11 : ∀ w ∈ u_ws RX10 TX10 3, w ∈ ALLW := fun w hw => mT (memF (big := tables_1) [329, 330, 331] (by decide +kernel) w hw) (List.all_eq_true.mp (by decide +kernel : (u_ws RX10 TX10 3).all goodWord = true) w hw)
theorem fw_11 : FW RX10 TX10 3 tyX10 := ⟨tyX10_ok, nmX10⟩
theorem inA_12 : ∀ w ∈ u_ws RX11 TX11 12, w ∈ ALLW := fun w hw => mT (memF (big := tables_1) [202, 204, 206, 208, 210, 212, 214, 216, 218, 220, 222, 224] (by decide +kernel) w hw) (List.all_eq_true.mp (by decide +kernel : (u_ws RX11 TX11 12).all goodWord = true) w hw)
theorem fw_12 : FW RX11 TX11 12 tyX11 := ⟨tyX11_ok, nmX11⟩
theorem inA_13 : ∀ w ∈ u_ws RX12 TX12 61, w ∈ ALLW := fun w hw => mT (memF (big := tables_1) [1060, 1062, 1064, 1066, 1068, 1070, 1072, 1074, 1076, 1078, 1080, 1082, 1084, 1086, 1088, 1090, 1092, 1094, 1096, 1098, 1100, 1102, 1104, 1106, 1108, 1110, 1112, 1114, 1116, 1118, 1120, 1122, 1124, 1126, 1128, 1130, 1132, 1134, 1136, 1138, 1140, 1142, 1144, 1146, 1148, 1150, 1152, 1154, 1156, 1158, 1160, 1162, 1164, 1166, 1168, 1170, 1172, 1174, 1176, 1178, 1180] (by decide +kernel) w hw) (List.all_eq_true.mp (by decide +kernel : (u_ws RX12 TX12 61).all goodWord = true) w hw)
theorem fw_13 : FW RX12 TX12 61 tyX12 := ⟨tyX12_ok, nmX12⟩
theorem fl_X11_14_12 : FL "SignalBlind" 14 12 0 "SignalBlind" RX11 TX11 12 := ⟨by decide, rfl, by decide, inA_12, (mT_1 190 rfl rfl), Or.inl rfl⟩
theorem fl_X11_18_12 : FL "SignalBlind" 18 12 1 "SignalBlind" RX11 TX11 12 := ⟨by decide, rfl, by decide, inA_12, (mT_1 191 rfl rfl), Or.inl rfl⟩
theorem fl_X11_21_12 : FL "SignalBlind" 21 12 2 "SignalBlind" RX11 TX11 12 := ⟨by decide, rfl, by decide, inA_12, (mT_1 192 rfl rfl), Or.inl rfl⟩
theorem fl_X11_32_12 : FL "SignalBlind" 32 12 3 "SignalBlind" RX11 TX11 12 := ⟨by decide, rfl, by decide, inA_12, (mT_1 193 rfl rfl), Or.inl rfl⟩
theorem fl_X11_37_12 : FL "SignalBlind" 37 12 4 "SignalBlind" RX11 TX11 12 := ⟨by decide, rfl, by decide, inA_12, (mT_1 194 rfl rfl), Or.inl rfl⟩
theorem fl_X11_41_12 : FL "SignalBlind" 41 12 5 "SignalBlind" RX11 TX11 12 := ⟨by decide, rfl, by decide, inA_12, (mT_1 195 rfl rfl), Or.inl rfl⟩
theorem fl_X11_47_12 : FL "SignalBlind" 47 12 6 "SignalBlind" RX11 TX11 12 := ⟨by decide, rfl, by decide, inA_12, (mT_1 196 rfl rfl), Or.inl rfl⟩
theorem fl_X11_54_12 : FL "SignalBlind" 54 12 7 "SignalBlind" RX11 TX11 12 := ⟨by decide, rfl, by decide, inA_12, (mT_1 197 rfl rfl), Or.inl rfl⟩
theorem fl_X11_58_12 : FL "SignalBlind" 58 12 8 "SignalBlind" RX11 TX11 12 := ⟨by decide, rfl, by decide, inA_12, (mT_1 198 rfl rfl), Or.inl rfl⟩
theorem fl_X11_62_12 : FL "SignalBlind" 62 12 9 "SignalBlind" RX11 TX11 12 := ⟨by decide, rfl, by decide, inA_12, (mT_1 199 rfl rfl), Or.inl rfl⟩
theorem fl_X11_66_12 : FL "SignalBlind" 66 12 10 "SignalBlind" RX11 TX11 12 := ⟨by decide, rfl, by decide, inA_12, (mT_1 200 rfl rfl), Or.inl rfl⟩
theorem fl_X11_69_12 : FL "SignalBlind" 69 12 11 "SignalBlind" RX11 TX11 12 := ⟨by decide, rfl, by decide, inA_12, (mT_1 201 rfl rfl), Or.inl rfl⟩
theorem fl_X11_77_4 : FL "SignalBlind" 77 4 0 "SignalBlind$Scene" RX3 TX3 10 := ⟨by decide, rfl, by decide, inA_4, (mT_1 61 rfl rfl), Or.inl rfl⟩
theorem fl_X11_101_4 : FL "SignalBlind" 101 4 2 "SignalBlind$Scene" RX3 TX3 10 := ⟨by decide, rfl, by decide, inA_4, (mT_1 65 rfl rfl), Or.inl rfl⟩
theorem fl_X11_115_4 : FL "SignalBlind" 115 4 1 "SignalBlind$Scene" RX3 TX3 10 := ⟨by decide, rfl, by decide, inA_4, (mT_1 63 rfl rfl), Or.inl rfl⟩
theorem fl_X11_119_1 : FL "SignalBlind" 119 1 1 "SignalBlind$Sender" RX0 TX0 3 := ⟨by decide, rfl, by decide, inA_1, (mT_2 41 rfl rfl), Or.inl rfl⟩
theorem fl_X11_119_2 : FL "SignalBlind" 119 2 1 "SignalBlind$Sender" RX1 TX1 3 := ⟨by decide, rfl, by decide, inA_2, (mT_2 41 rfl rfl), Or.inl rfl⟩
theorem fl_X11_119_5 : FL "SignalBlind" 119 5 1 "SignalBlind$Sender" RX4 TX4 3 := ⟨by decide, rfl, by decide, inA_5, (mT_2 41 rfl rfl), Or.inl rfl⟩
theorem fl_X11_119_6 : FL "SignalBlind" 119 6 1 "SignalBlind$Sender" RX5 TX5 3 := ⟨by decide, rfl, by decide, inA_6, (mT_2 41 rfl rfl), Or.inl rfl⟩
theorem fl_X11_119_8 : FL "SignalBlind" 119 8 1 "SignalBlind$Sender" RX7 TX7 3 := ⟨by decide, rfl, by decide, inA_8, (mT_2 41 rfl rfl), Or.inl rfl⟩
theorem fl_X11_119_9 : FL "SignalBlind" 119 9 1 "SignalBlind$Sender" RX8 TX8 3 := ⟨by decide, rfl, by decide, inA_9, (mT_2 41 rfl rfl), Or.inl rfl⟩
theorem fl_X11_119_11 : FL "SignalBlind" 119 11 1 "SignalBlind$Sender" RX10 TX10 3 := ⟨by decide, rfl, by decide, inA_11, (mT_2 41 rfl rfl), Or.inl rfl⟩
theorem fl_X11_124_1 : FL "SignalBlind" 124 1 2 "SignalBlind$Sender" RX0 TX0 3 := ⟨by decide, rfl, by decide, inA_1, (mT_2 45 rfl rfl), Or.inl rfl⟩
theorem fl_X11_124_2 : FL "SignalBlind" 124 2 2 "SignalBlind$Sender" RX1 TX1 3 := ⟨by decide, rfl, by decide, inA_2, (mT_2 45 rfl rfl), Or.inl rfl⟩
theorem fl_X11_124_5 : FL "SignalBlind" 124 5 2 "SignalBlind$Sender" RX4 TX4 3 := ⟨by decide, rfl, by decide, inA_5, (mT_2 45 rfl rfl), Or.inl rfl⟩
theorem fl_X11_124_6 : FL "SignalBlind" 124 6 2 "SignalBlind$Sender" RX5 TX5 3 := ⟨by decide, rfl, by decide, inA_6, (mT_2 45 rfl rfl), Or.inl rfl⟩
theorem fl_X11_124_8 : FL "SignalBlind" 124 8 2 "SignalBlind$Sender" RX7 TX7 3 := ⟨by decide, rfl, by decide, inA_8, (mT_2 45 rfl rfl), Or.inl rfl⟩
theorem fl_X11_124_9 : FL "SignalBlind" 124 9 2 "SignalBlind$Sender" RX8 TX8 3 := ⟨by decide, rfl, by decide, inA_9, (mT_2 45 rfl rfl), Or.inl rfl⟩
theorem fl_X11_124_11 : FL "SignalBlind" 124 11 2 "SignalBlind$Sender" RX10 TX10 3 := ⟨by decide, rfl, by decide, inA_11, (mT_2 45 rfl rfl), Or.inl rfl⟩
theorem fl_X11_127_4 : FL "SignalBlind" 127 4 3 "SignalBlind$Scene" RX3 TX3 10 := ⟨by decide, rfl, by decide, inA_4, (mT_1 67 rfl rfl), Or.inl rfl⟩
theorem fl_X11_145_4 : FL "SignalBlind" 145 4 4 "SignalBlind$Scene" RX3 TX3 10 := ⟨by decide, rfl, by decide, inA_4, (mT_1 69 rfl rfl), Or.inl rfl⟩
theorem fl_X11_155_4 : FL "SignalBlind" 155 4 9 "SignalBlind$Scene" RX3 TX3 10 := ⟨by decide, rfl, by decide, inA_4, (mT_1 79 rfl rfl), Or.inl rfl⟩
theorem fl_X11_158_4 : FL "SignalBlind" 158 4 5 "SignalBlind$Scene" RX3 TX3 10 := ⟨by decide, rfl, by decide, inA_4, (mT_1 71 rfl rfl), Or.inl rfl⟩
theorem fl_X11_179_3 : FL "SignalBlind" 179 3 1 "SignalBlind$Row" RX2 TX2 2 := ⟨by decide, rfl, by decide, inA_3, (mT_1 51 rfl rfl), Or.inl rfl⟩
theorem fl_X11_185_4 : FL "SignalBlind" 185 4 6 "SignalBlind$Scene" RX3 TX3 10 := ⟨by decide, rfl, by decide, inA_4, (mT_1 73 rfl rfl), Or.inl rfl⟩
theorem fl_X11_206_4 : FL "SignalBlind" 206 4 7 "SignalBlind$Scene" RX3 TX3 10 := ⟨by decide, rfl, by decide, inA_4, (mT_1 75 rfl rfl), Or.inl rfl⟩
theorem fl_X11_213_4 : FL "SignalBlind" 213 4 8 "SignalBlind$Scene" RX3 TX3 10 := ⟨by decide, rfl, by decide, inA_4, (mT_1 77 rfl rfl), Or.inl rfl⟩
theorem fl_X11_219_7 : FL "SignalBlind" 219 7 1 "SignalBlind$Tape" RX6 TX6 3 := ⟨by decide, rfl, by decide, inA_7, (mT_1 180 rfl rfl), Or.inl rfl⟩
theorem fl_X11_225_7 : FL "SignalBlind" 225 7 0 "SignalBlind$Tape" RX6 TX6 3 := ⟨by decide, rfl, by decide, inA_7, (mT_1 178 rfl rfl), Or.inl rfl⟩
theorem fl_X11_280_10 : FL "SignalBlind" 280 10 6 "SignalBlind$Ward" RX9 TX9 9 := ⟨by decide, rfl, by decide, inA_10, (mT_1 116 rfl rfl), Or.inl rfl⟩
theorem fl_X2_7_3 : FL "SignalBlind$Row" 7 3 1 "SignalBlind$Row" RX2 TX2 2 := ⟨by decide, rfl, by decide, inA_3, (mT_1 49 rfl rfl), Or.inl rfl⟩
theorem fl_X2_13_3 : FL "SignalBlind$Row" 13 3 0 "SignalBlind$Row" RX2 TX2 2 := ⟨by decide, rfl, by decide, inA_3, (mT_1 47 rfl rfl), Or.inl rfl⟩
theorem fl_X3_14_4 : FL "SignalBlind$Scene" 14 4 0 "SignalBlind$Scene" RX3 TX3 10 := ⟨by decide, rfl, by decide, inA_4, (mT_1 60 rfl rfl), Or.inl rfl⟩
theorem fl_X3_22_4 : FL "SignalBlind$Scene" 22 4 1 "SignalBlind$Scene" RX3 TX3 10 := ⟨by decide, rfl, by decide, inA_4, (mT_1 62 rfl rfl), Or.inl rfl⟩
theorem fl_X3_26_4 : FL "SignalBlind$Scene" 26 4 2 "SignalBlind$Scene" RX3 TX3 10 := ⟨by decide, rfl, by decide, inA_4, (mT_1 64 rfl rfl), Or.inl rfl⟩
theorem fl_X3_30_4 : FL "SignalBlind$Scene" 30 4 3 "SignalBlind$Scene" RX3 TX3 10 := ⟨by decide, rfl, by decide, inA_4, (mT_1 66 rfl rfl), Or.inl rfl⟩
theorem fl_X3_34_4 : FL "SignalBlind$Scene" 34 4 4 "SignalBlind$Scene" RX3 TX3 10 := ⟨by decide, rfl, by decide, inA_4, (mT_1 68 rfl rfl), Or.inl rfl⟩
theorem fl_X3_37_4 : FL "SignalBlind$Scene" 37 4 5 "SignalBlind$Scene" RX3 TX3 10 := ⟨by decide, rfl, by decide, inA_4, (mT_1 70 rfl rfl), Or.inl rfl⟩
theorem fl_X3_40_4 : FL "SignalBlind$Scene" 40 4 6 "SignalBlind$Scene" RX3 TX3 10 := ⟨by decide, rfl, by decide, inA_4, (mT_1 72 rfl rfl), Or.inl rfl⟩
theorem fl_X3_43_4 : FL "SignalBlind$Scene" 43 4 7 "SignalBlind$Scene" RX3 TX3 10 := ⟨by decide, rfl, by decide, inA_4, (mT_1 74 rfl rfl), Or.inl rfl⟩
theorem fl_X3_46_4 : FL "SignalBlind$Scene" 46 4 8 "SignalBlind$Scene" RX3 TX3 10 := ⟨by decide, rfl, by decide, inA_4, (mT_1 76 rfl rfl), Or.inl rfl⟩
theorem fl_X3_49_4 : FL "SignalBlind$Scene" 49 4 9 "SignalBlind$Scene" RX3 TX3 10 := ⟨by decide, rfl, by decide, inA_4, (mT_1 78 rfl rfl), Or.inl rfl⟩
theorem fl_X4_7_1 : FL "SignalBlind$Sender" 7 1 0 "SignalBlind$Sender" RX0 TX0 3 := ⟨by decide, rfl, by decide, inA_1, (mT_2 37 rfl rfl), Or.inl rfl⟩
theorem fl_X4_7_2 : FL "SignalBlind$Sender" 7 2 0 "SignalBlind$Sender" RX1 TX1 3 := ⟨by decide, rfl, by decide, inA_2, (mT_2 37 rfl rfl), Or.inl rfl⟩
theorem fl_X4_7_5 : FL "SignalBlind$Sender" 7 5 0 "SignalBlind$Sender" RX4 TX4 3 := ⟨by decide, rfl, by decide, inA_5, (mT_2 37 rfl rfl), Or.inl rfl⟩
theorem fl_X4_7_6 : FL "SignalBlind$Sender" 7 6 0 "SignalBlind$Sender" RX5 TX5 3 := ⟨by decide, rfl, by decide, inA_6, (mT_2 37 rfl rfl), Or.inl rfl⟩
theorem fl_X4_7_8 : FL "SignalBlind$Sender" 7 8 0 "SignalBlind$Sender" RX7 TX7 3 := ⟨by decide, rfl, by decide, inA_8, (mT_2 37 rfl rfl), Or.inl rfl⟩
theorem fl_X4_7_9 : FL "SignalBlind$Sender" 7 9 0 "SignalBlind$Sender" RX8 TX8 3 := ⟨by decide, rfl, by decide, inA_9, (mT_2 37 rfl rfl), Or.inl rfl⟩
theorem fl_X4_7_11 : FL "SignalBlind$Sender" 7 11 0 "SignalBlind$Sender" RX10 TX10 3 := ⟨by decide, rfl, by decide, inA_11, (mT_2 37 rfl rfl), Or.inl rfl⟩
theorem fl_X4_13_1 : FL "SignalBlind$Sender" 13 1 1 "SignalBlind$Sender" RX0 TX0 3 := ⟨by decide, rfl, by decide, inA_1, (mT_2 40 rfl rfl), Or.inl rfl⟩
theorem fl_X4_13_2 : FL "SignalBlind$Sender" 13 2 1 "SignalBlind$Sender" RX1 TX1 3 := ⟨by decide, rfl, by decide, inA_2, (mT_2 40 rfl rfl), Or.inl rfl⟩
theorem fl_X4_13_5 : FL "SignalBlind$Sender" 13 5 1 "SignalBlind$Sender" RX4 TX4 3 := ⟨by decide, rfl, by decide, inA_5, (mT_2 40 rfl rfl), Or.inl rfl⟩
theorem fl_X4_13_6 : FL "SignalBlind$Sender" 13 6 1 "SignalBlind$Sender" RX5 TX5 3 := ⟨by decide, rfl, by decide, inA_6, (mT_2 40 rfl rfl), Or.inl rfl⟩
theorem fl_X4_13_8 : FL "SignalBlind$Sender" 13 8 1 "SignalBlind$Sender" RX7 TX7 3 := ⟨by decide, rfl, by decide, inA_8, (mT_2 40 rfl rfl), Or.inl rfl⟩
theorem fl_X4_13_9 : FL "SignalBlind$Sender" 13 9 1 "SignalBlind$Sender" RX8 TX8 3 := ⟨by decide, rfl, by decide, inA_9, (mT_2 40 rfl rfl), Or.inl rfl⟩
theorem fl_X4_13_11 : FL "SignalBlind$Sender" 13 11 1 "SignalBlind$Sender" RX10 TX10 3 := ⟨by decide, rfl, by decide, inA_11, (mT_2 40 rfl rfl), Or.inl rfl⟩
theorem fl_X4_16_1 : FL "SignalBlind$Sender" 16 1 2 "SignalBlind$Sender" RX0 TX0 3 := ⟨by decide, rfl, by decide, inA_1, (mT_2 42 rfl rfl), Or.inl rfl⟩
theorem fl_X4_16_2 : FL "SignalBlind$Sender" 16 2 2 "SignalBlind$Sender" RX1 TX1 3 := ⟨by decide, rfl, by decide, inA_2, (mT_2 42 rfl rfl), Or.inl rfl⟩
theorem fl_X4_16_5 : FL "SignalBlind$Sender" 16 5 2 "SignalBlind$Sender" RX4 TX4 3 := ⟨by decide, rfl, by decide, inA_5, (mT_2 42 rfl rfl), Or.inl rfl⟩
theorem fl_X4_16_6 : FL "SignalBlind$Sender" 16 6 2 "SignalBlind$Sender" RX5 TX5 3 := ⟨by decide, rfl, by decide, inA_6, (mT_2 42 rfl rfl), Or.inl rfl⟩
theorem fl_X4_16_8 : FL "SignalBlind$Sender" 16 8 2 "SignalBlind$Sender" RX7 TX7 3 := ⟨by decide, rfl, by decide, inA_8, (mT_2 42 rfl rfl), Or.inl rfl⟩
theorem fl_X4_16_9 : FL "SignalBlind$Sender" 16 9 2 "SignalBlind$Sender" RX8 TX8 3 := ⟨by decide, rfl, by decide, inA_9, (mT_2 42 rfl rfl), Or.inl rfl⟩
theorem fl_X4_16_11 : FL "SignalBlind$Sender" 16 11 2 "SignalBlind$Sender" RX10 TX10 3 := ⟨by decide, rfl, by decide, inA_11, (mT_2 42 rfl rfl), Or.inl rfl⟩
theorem fl_X6_9_7 : FL "SignalBlind$Tape" 9 7 0 "SignalBlind$Tape" RX6 TX6 3 := ⟨by decide, rfl, by decide, inA_7, (mT_1 177 rfl rfl), Or.inl rfl⟩
theorem fl_X6_13_7 : FL "SignalBlind$Tape" 13 7 1 "SignalBlind$Tape" RX6 TX6 3 := ⟨by decide, rfl, by decide, inA_7, (mT_1 179 rfl rfl), Or.inl rfl⟩
theorem fl_X6_17_7 : FL "SignalBlind$Tape" 17 7 2 "SignalBlind$Tape" RX6 TX6 3 := ⟨by decide, rfl, by decide, inA_7, (mT_1 181 rfl rfl), Or.inl rfl⟩
theorem fl_X8_24_9 : FL "SignalBlind$Told" 24 9 2 "SignalBlind$Told" RX8 TX8 3 := ⟨by decide, rfl, by decide, inA_9, (mT_2 43 rfl rfl), Or.inr (mT_2 44 rfl rfl)⟩
theorem fl_X9_11_10 : FL "SignalBlind$Ward" 11 10 0 "SignalBlind$Ward" RX9 TX9 9 := ⟨by decide, rfl, by decide, inA_10, (mT_1 109 rfl rfl), Or.inl rfl⟩
theorem fl_X9_15_10 : FL "SignalBlind$Ward" 15 10 1 "SignalBlind$Ward" RX9 TX9 9 := ⟨by decide, rfl, by decide, inA_10, (mT_1 110 rfl rfl), Or.inl rfl⟩
theorem fl_X9_18_10 : FL "SignalBlind$Ward" 18 10 2 "SignalBlind$Ward" RX9 TX9 9 := ⟨by decide, rfl, by decide, inA_10, (mT_1 111 rfl rfl), Or.inl rfl⟩
theorem fl_X9_21_10 : FL "SignalBlind$Ward" 21 10 3 "SignalBlind$Ward" RX9 TX9 9 := ⟨by decide, rfl, by decide, inA_10, (mT_1 112 rfl rfl), Or.inl rfl⟩
theorem fl_X9_25_10 : FL "SignalBlind$Ward" 25 10 4 "SignalBlind$Ward" RX9 TX9 9 := ⟨by decide, rfl, by decide, inA_10, (mT_1 113 rfl rfl), Or.inl rfl⟩
theorem fl_X9_28_10 : FL "SignalBlind$Ward" 28 10 5 "SignalBlind$Ward" RX9 TX9 9 := ⟨by decide, rfl, by decide, inA_10, (mT_1 114 rfl rfl), Or.inl rfl⟩
theorem fl_X9_31_10 : FL "SignalBlind$Ward" 31 10 6 "SignalBlind$Ward" RX9 TX9 9 := ⟨by decide, rfl, by decide, inA_10, (mT_1 115 rfl rfl), Or.inl rfl⟩
theorem fl_X9_34_10 : FL "SignalBlind$Ward" 34 10 7 "SignalBlind$Ward" RX9 TX9 9 := ⟨by decide, rfl, by decide, inA_10, (mT_1 117 rfl rfl), Or.inl rfl⟩
theorem fl_X9_38_10 : FL "SignalBlind$Ward" 38 10 8 "SignalBlind$Ward" RX9 TX9 9 := ⟨by decide, rfl, by decide, inA_10, (mT_1 118 rfl rfl), Or.inl rfl⟩
theorem fl_X9_49_3 : FL "SignalBlind$Ward" 49 3 1 "SignalBlind$Row" RX2 TX2 2 := ⟨by decide, rfl, by decide, inA_3, (mT_1 50 rfl rfl), Or.inl rfl⟩
theorem fl_X9_91_3 : FL "SignalBlind$Ward" 91 3 0 "SignalBlind$Row" RX2 TX2 2 := ⟨by decide, rfl, by decide, inA_3, (mT_1 48 rfl rfl), Or.inl rfl⟩
theorem fl_X10_17_11 : FL "SignalBlind$Wind" 17 11 0 "SignalBlind$Wind" RX10 TX10 3 := ⟨by decide, rfl, by decide, inA_11, (mT_2 38 rfl rfl), Or.inr (mT_2 39 rfl rfl)⟩
theorem fl_X12_7_13 : FL "SignalBlindModel" 7 13 0 "SignalBlindModel" RX12 TX12 61 := ⟨by decide, rfl, by decide, inA_13, (mT_5 39 rfl rfl), Or.inl rfl⟩
theorem fl_X12_13_13 : FL "SignalBlindModel" 13 13 1 "SignalBlindModel" RX12 TX12 61 := ⟨by decide, rfl, by decide, inA_13, (mT_5 40 rfl rfl), Or.inl rfl⟩
theorem fl_X12_16_13 : FL "SignalBlindModel" 16 13 2 "SignalBlindModel" RX12 TX12 61 := ⟨by decide, rfl, by decide, inA_13, (mT_5 41 rfl rfl), Or.inl rfl⟩
theorem fl_X12_19_13 : FL "SignalBlindModel" 19 13 3 "SignalBlindModel" RX12 TX12 61 := ⟨by decide, rfl, by decide, inA_13, (mT_5 42 rfl rfl), Or.inl rfl⟩
theorem fl_X12_23_13 : FL "SignalBlindModel" 23 13 4 "SignalBlindModel" RX12 TX12 61 := ⟨by decide, rfl, by decide, inA_13, (mT_5 43 rfl rfl), Or.inl rfl⟩
theorem fl_X12_26_13 : FL "SignalBlindModel" 26 13 5 "SignalBlindModel" RX12 TX12 61 := ⟨by decide, rfl, by decide, inA_13, (mT_5 44 rfl rfl), Or.inl rfl⟩
theorem fl_X12_29_13 : FL "SignalBlindModel" 29 13 6 "SignalBlindModel" RX12 TX12 61 := ⟨by decide, rfl, by decide, inA_13, (mT_5 45 rfl rfl), Or.inl rfl⟩
theorem fl_X12_32_13 : FL "SignalBlindModel" 32 13 7 "SignalBlindModel" RX12 TX12 61 := ⟨by decide, rfl, by decide, inA_13, (mT_5 46 rfl rfl), Or.inl rfl⟩
theorem fl_X12_35_13 : FL "SignalBlindModel" 35 13 8 "SignalBlindModel" RX12 TX12 61 := ⟨by decide, rfl, by decide, inA_13, (mT_5 47 rfl rfl), Or.inl rfl⟩
theorem fl_X12_38_13 : FL "SignalBlindModel" 38 13 9 "SignalBlindModel" RX12 TX12 61 := ⟨by decide, rfl, by decide, inA_13, (mT_5 48 rfl rfl), Or.inl rfl⟩
theorem fl_X12_41_13 : FL "SignalBlindModel" 41 13 10 "SignalBlindModel" RX12 TX12 61 := ⟨by decide, rfl, by decide, inA_13, (mT_5 49 rfl rfl), Or.inl rfl⟩
theorem fl_X12_44_13 : FL "SignalBlindModel" 44 13 11 "SignalBlindModel" RX12 TX12 61 := ⟨by decide, rfl, by decide, inA_13, (mT_5 50 rfl rfl), Or.inl rfl⟩
theorem fl_X12_47_13 : FL "SignalBlindModel" 47 13 12 "SignalBlindModel" RX12 TX12 61 := ⟨by decide, rfl, by decide, inA_13, (mT_5 51 rfl rfl), Or.inl rfl⟩
theorem fl_X12_50_13 : FL "SignalBlindModel" 50 13 13 "SignalBlindModel" RX12 TX12 61 := ⟨by decide, rfl, by decide, inA_13, (mT_5 52 rfl rfl), Or.inl rfl⟩
theorem fl_X12_53_13 : FL "SignalBlindModel" 53 13 14 "SignalBlindModel" RX12 TX12 61 := ⟨by decide, rfl, by decide, inA_13, (mT_5 53 rfl rfl), Or.inl rfl⟩
theorem fl_X12_56_13 : FL "SignalBlindModel" 56 13 15 "SignalBlindModel" RX12 TX12 61 := ⟨by decide, rfl, by decide, inA_13, (mT_5 54 rfl rfl), Or.inl rfl⟩
theorem fl_X12_59_13 : FL "SignalBlindModel" 59 13 16 "SignalBlindModel" RX12 TX12 61 := ⟨by decide, rfl, by decide, inA_13, (mT_5 55 rfl rfl), Or.inl rfl⟩
theorem fl_X12_62_13 : FL "SignalBlindModel" 62 13 17 "SignalBlindModel" RX12 TX12 61 := ⟨by decide, rfl, by decide, inA_13, (mT_5 56 rfl rfl), Or.inl rfl⟩
theorem fl_X12_65_13 : FL "SignalBlindModel" 65 13 18 "SignalBlindModel" RX12 TX12 61 := ⟨by decide, rfl, by decide, inA_13, (mT_5 57 rfl rfl), Or.inl rfl⟩
theorem fl_X12_68_13 : FL "SignalBlindModel" 68 13 19 "SignalBlindModel" RX12 TX12 61 := ⟨by decide, rfl, by decide, inA_13, (mT_5 58 rfl rfl), Or.inl rfl⟩
theorem fl_X12_71_13 : FL "SignalBlindModel" 71 13 20 "SignalBlindModel" RX12 TX12 61 := ⟨by decide, rfl, by decide, inA_13, (mT_5 59 rfl rfl), Or.inl rfl⟩
theorem fl_X12_74_13 : FL "SignalBlindModel" 74 13 21 "SignalBlindModel" RX12 TX12 61 := ⟨by decide, rfl, by decide, inA_13, (mT_5 60 rfl rfl), Or.inl rfl⟩
theorem fl_X12_77_13 : FL "SignalBlindModel" 77 13 22 "SignalBlindModel" RX12 TX12 61 := ⟨by decide, rfl, by decide, inA_13, (mT_5 61 rfl rfl), Or.inl rfl⟩
theorem fl_X12_80_13 : FL "SignalBlindModel" 80 13 23 "SignalBlindModel" RX12 TX12 61 := ⟨by decide, rfl, by decide, inA_13, (mT_5 62 rfl rfl), Or.inl rfl⟩
theorem fl_X12_83_13 : FL "SignalBlindModel" 83 13 24 "SignalBlindModel" RX12 TX12 61 := ⟨by decide, rfl, by decide, inA_13, (mT_5 63 rfl rfl), Or.inl rfl⟩
theorem fl_X12_86_13 : FL "SignalBlindModel" 86 13 25 "SignalBlindModel" RX12 TX12 61 := ⟨by decide, rfl, by decide, inA_13, (mT_5 64 rfl rfl), Or.inl rfl⟩
theorem fl_X12_90_13 : FL "SignalBlindModel" 90 13 26 "SignalBlindModel" RX12 TX12 61 := ⟨by decide, rfl, by decide, inA_13, (mT_5 65 rfl rfl), Or.inl rfl⟩
theorem fl_X12_93_13 : FL "SignalBlindModel" 93 13 27 "SignalBlindModel" RX12 TX12 61 := ⟨by decide, rfl, by decide, inA_13, (mT_5 66 rfl rfl), Or.inl rfl⟩
theorem fl_X12_96_13 : FL "SignalBlindModel" 96 13 28 "SignalBlindModel" RX12 TX12 61 := ⟨by decide, rfl, by decide, inA_13, (mT_5 67 rfl rfl), Or.inl rfl⟩
theorem fl_X12_99_13 : FL "SignalBlindModel" 99 13 29 "SignalBlindModel" RX12 TX12 61 := ⟨by decide, rfl, by decide, inA_13, (mT_5 68 rfl rfl), Or.inl rfl⟩
theorem fl_X12_102_13 : FL "SignalBlindModel" 102 13 30 "SignalBlindModel" RX12 TX12 61 := ⟨by decide, rfl, by decide, inA_13, (mT_5 69 rfl rfl), Or.inl rfl⟩
theorem fl_X12_105_13 : FL "SignalBlindModel" 105 13 31 "SignalBlindModel" RX12 TX12 61 := ⟨by decide, rfl, by decide, inA_13, (mT_5 70 rfl rfl), Or.inl rfl⟩
theorem fl_X12_108_13 : FL "SignalBlindModel" 108 13 32 "SignalBlindModel" RX12 TX12 61 := ⟨by decide, rfl, by decide, inA_13, (mT_5 71 rfl rfl), Or.inl rfl⟩
theorem fl_X12_111_13 : FL "SignalBlindModel" 111 13 33 "SignalBlindModel" RX12 TX12 61 := ⟨by decide, rfl, by decide, inA_13, (mT_5 72 rfl rfl), Or.inl rfl⟩
theorem fl_X12_114_13 : FL "SignalBlindModel" 114 13 34 "SignalBlindModel" RX12 TX12 61 := ⟨by decide, rfl, by decide, inA_13, (mT_5 73 rfl rfl), Or.inl rfl⟩
theorem fl_X12_117_13 : FL "SignalBlindModel" 117 13 35 "SignalBlindModel" RX12 TX12 61 := ⟨by decide, rfl, by decide, inA_13, (mT_5 74 rfl rfl), Or.inl rfl⟩
theorem fl_X12_120_13 : FL "SignalBlindModel" 120 13 36 "SignalBlindModel" RX12 TX12 61 := ⟨by decide, rfl, by decide, inA_13, (mT_5 75 rfl rfl), Or.inl rfl⟩
theorem fl_X12_123_13 : FL "SignalBlindModel" 123 13 37 "SignalBlindModel" RX12 TX12 61 := ⟨by decide, rfl, by decide, inA_13, (mT_5 76 rfl rfl), Or.inl rfl⟩
theorem fl_X12_127_13 : FL "SignalBlindModel" 127 13 38 "SignalBlindModel" RX12 TX12 61 := ⟨by decide, rfl, by decide, inA_13, (mT_5 77 rfl rfl), Or.inl rfl⟩
theorem fl_X12_130_13 : FL "SignalBlindModel" 130 13 39 "SignalBlindModel" RX12 TX12 61 := ⟨by decide, rfl, by decide, inA_13, (mT_5 78 rfl rfl), Or.inl rfl⟩
theorem fl_X12_133_13 : FL "SignalBlindModel" 133 13 40 "SignalBlindModel" RX12 TX12 61 := ⟨by decide, rfl, by decide, inA_13, (mT_5 79 rfl rfl), Or.inl rfl⟩
theorem fl_X12_136_13 : FL "SignalBlindModel" 136 13 41 "SignalBlindModel" RX12 TX12 61 := ⟨by decide, rfl, by decide, inA_13, (mT_5 80 rfl rfl), Or.inl rfl⟩
theorem fl_X12_139_13 : FL "SignalBlindModel" 139 13 42 "SignalBlindModel" RX12 TX12 61 := ⟨by decide, rfl, by decide, inA_13, (mT_5 81 rfl rfl), Or.inl rfl⟩
theorem fl_X12_142_13 : FL "SignalBlindModel" 142 13 43 "SignalBlindModel" RX12 TX12 61 := ⟨by decide, rfl, by decide, inA_13, (mT_5 82 rfl rfl), Or.inl rfl⟩
theorem fl_X12_145_13 : FL "SignalBlindModel" 145 13 44 "SignalBlindModel" RX12 TX12 61 := ⟨by decide, rfl, by decide, inA_13, (mT_5 83 rfl rfl), Or.inl rfl⟩
theorem fl_X12_148_13 : FL "SignalBlindModel" 148 13 45 "SignalBlindModel" RX12 TX12 61 := ⟨by decide, rfl, by decide, inA_13, (mT_5 84 rfl rfl), Or.inl rfl⟩
theorem fl_X12_151_13 : FL "SignalBlindModel" 151 13 46 "SignalBlindModel" RX12 TX12 61 := ⟨by decide, rfl, by decide, inA_13, (mT_5 85 rfl rfl), Or.inl rfl⟩
theorem fl_X12_154_13 : FL "SignalBlindModel" 154 13 47 "SignalBlindModel" RX12 TX12 61 := ⟨by decide, rfl, by decide, inA_13, (mT_5 86 rfl rfl), Or.inl rfl⟩
theorem fl_X12_157_13 : FL "SignalBlindModel" 157 13 48 "SignalBlindModel" RX12 TX12 61 := ⟨by decide, rfl, by decide, inA_13, (mT_5 87 rfl rfl), Or.inl rfl⟩
theorem fl_X12_160_13 : FL "SignalBlindModel" 160 13 49 "SignalBlindModel" RX12 TX12 61 := ⟨by decide, rfl, by decide, inA_13, (mT_5 88 rfl rfl), Or.inl rfl⟩
theorem fl_X12_163_13 : FL "SignalBlindModel" 163 13 50 "SignalBlindModel" RX12 TX12 61 := ⟨by decide, rfl, by decide, inA_13, (mT_5 89 rfl rfl), Or.inl rfl⟩
theorem fl_X12_166_13 : FL "SignalBlindModel" 166 13 51 "SignalBlindModel" RX12 TX12 61 := ⟨by decide, rfl, by decide, inA_13, (mT_5 90 rfl rfl), Or.inl rfl⟩
theorem fl_X12_169_13 : FL "SignalBlindModel" 169 13 52 "SignalBlindModel" RX12 TX12 61 := ⟨by decide, rfl, by decide, inA_13, (mT_5 91 rfl rfl), Or.inl rfl⟩
theorem fl_X12_172_13 : FL "SignalBlindModel" 172 13 53 "SignalBlindModel" RX12 TX12 61 := ⟨by decide, rfl, by decide, inA_13, (mT_5 92 rfl rfl), Or.inl rfl⟩
theorem fl_X12_175_13 : FL "SignalBlindModel" 175 13 54 "SignalBlindModel" RX12 TX12 61 := ⟨by decide, rfl, by decide, inA_13, (mT_5 93 rfl rfl), Or.inl rfl⟩
theorem fl_X12_178_13 : FL "SignalBlindModel" 178 13 55 "SignalBlindModel" RX12 TX12 61 := ⟨by decide, rfl, by decide, inA_13, (mT_5 94 rfl rfl), Or.inl rfl⟩
theorem fl_X12_181_13 : FL "SignalBlindModel" 181 13 56 "SignalBlindModel" RX12 TX12 61 := ⟨by decide, rfl, by decide, inA_13, (mT_5 95 rfl rfl), Or.inl rfl⟩
theorem fl_X12_184_13 : FL "SignalBlindModel" 184 13 57 "SignalBlindModel" RX12 TX12 61 := ⟨by decide, rfl, by decide, inA_13, (mT_5 96 rfl rfl), Or.inl rfl⟩
theorem fl_X12_187_13 : FL "SignalBlindModel" 187 13 58 "SignalBlindModel" RX12 TX12 61 := ⟨by decide, rfl, by decide, inA_13, (mT_5 97 rfl rfl), Or.inl rfl⟩
theorem fl_X12_190_13 : FL "SignalBlindModel" 190 13 59 "SignalBlindModel" RX12 TX12 61 := ⟨by decide, rfl, by decide, inA_13, (mT_5 98 rfl rfl), Or.inl rfl⟩
theorem fl_X12_194_13 : FL "SignalBlindModel" 194 13 60 "SignalBlindModel" RX12 TX12 61 := ⟨by decide, rfl, by decide, inA_13, (mT_5 99 rfl rfl), Or.inl rfl⟩
theorem fl_J5_15_0 : FL "java/lang/AbstractStringBuilder" 15 0 0 "java/lang/AbstractStringBuilder" RJ4 TJ4 4 := ⟨by decide, rfl, by decide, inA_0, (mT_1 158 rfl rfl), Or.inl rfl⟩
theorem fl_J5_22_0 : FL "java/lang/AbstractStringBuilder" 22 0 1 "java/lang/AbstractStringBuilder" RJ4 TJ4 4 := ⟨by decide, rfl, by decide, inA_0, (mT_1 159 rfl rfl), Or.inl rfl⟩
theorem fl_J5_73_0 : FL "java/lang/AbstractStringBuilder" 73 0 2 "java/lang/AbstractStringBuilder" RJ4 TJ4 4 := ⟨by decide, rfl, by decide, inA_0, (mT_1 160 rfl rfl), Or.inl rfl⟩
theorem fl_J5_79_0 : FL "java/lang/AbstractStringBuilder" 79 0 3 "java/lang/AbstractStringBuilder" RJ4 TJ4 4 := ⟨by decide, rfl, by decide, inA_0, (mT_1 161 rfl rfl), Or.inl rfl⟩
theorem ks_0 (h : hp) : kdOf h 0 = 12 + 1 := rfl
theorem sdX_0 {ω : XO} (hω : ω.2.2.2.1 = 1) : sd ω.2.2.2.1 0 = true := by rw [hω]; rfl
theorem ks_1 (h : hp) : kdOf h 1 = 4 + 1 := rfl
theorem sdX_1 {ω : XO} (hω : ω.2.2.2.1 = 1) : sd ω.2.2.2.1 1 = true := by rw [hω]; rfl
theorem ks_2 (h : hp) : kdOf h 2 = 3 + 1 := rfl
theorem sdX_2 {ω : XO} (hω : ω.2.2.2.1 = 1) : sd ω.2.2.2.1 2 = true := by rw [hω]; rfl
theorem ks_3 (h : hp) : kdOf h 3 = 40 + 10 * 8 + 0 := rfl
theorem sdX_3 {ω : XO} (hω : ω.2.2.2.1 = 1) : sd ω.2.2.2.1 3 = true := by rw [hω]; rfl
theorem ks_4 (h : hp) : kdOf h 4 = 40 + 10 * 5 + 4 := rfl
theorem sdX_4 {ω : XO} (hω : ω.2.2.2.1 = 1) : sd ω.2.2.2.1 4 = true := by rw [hω]; rfl
theorem ks_5 (h : hp) : kdOf h 5 = 40 + 10 * 5 + 0 := rfl
theorem sdX_5 {ω : XO} (hω : ω.2.2.2.1 = 1) : sd ω.2.2.2.1 5 = true := by rw [hω]; rfl
theorem ks_6 (h : hp) : kdOf h 6 = 40 + 10 * 20 + 0 := rfl
theorem sdX_6 {ω : XO} (hω : ω.2.2.2.1 = 1) : sd ω.2.2.2.1 6 = true := by rw [hω]; rfl
theorem ks_7 (h : hp) : kdOf h 7 = 3 + 1 := rfl
theorem sdX_7 {ω : XO} (hω : ω.2.2.2.1 = 1) : sd ω.2.2.2.1 7 = true := by rw [hω]; rfl
theorem ks_8 (h : hp) : kdOf h 8 = 40 + 10 * 5 + 0 := rfl
theorem sdX_8 {ω : XO} (hω : ω.2.2.2.1 = 1) : sd ω.2.2.2.1 8 = true := by rw [hω]; rfl
theorem ks_9 (h : hp) : kdOf h 9 = 3 + 1 := rfl
theorem sdX_9 {ω : XO} (hω : ω.2.2.2.1 = 1) : sd ω.2.2.2.1 9 = true := by rw [hω]; rfl
theorem ks_10 (h : hp) : kdOf h 10 = 40 + 10 * 8 + 0 := rfl
theorem sdX_10 {ω : XO} (hω : ω.2.2.2.1 = 1) : sd ω.2.2.2.1 10 = true := by rw [hω]; rfl
theorem ks_11 (h : hp) : kdOf h 11 = 3 + 1 := rfl
theorem sdX_11 {ω : XO} (hω : ω.2.2.2.1 = 1) : sd ω.2.2.2.1 11 = true := by rw [hω]; rfl
theorem ks_12 (h : hp) : kdOf h 12 = 40 + 10 * 8 + 0 := rfl
theorem sdX_12 {ω : XO} (hω : ω.2.2.2.1 = 1) : sd ω.2.2.2.1 12 = true := by rw [hω]; rfl
theorem ks_13 (h : hp) : kdOf h 13 = 4 + 1 := rfl
theorem sdX_13 {ω : XO} (hω : ω.2.2.2.1 = 1) : sd ω.2.2.2.1 13 = true := by rw [hω]; rfl
theorem ks_14 (h : hp) : kdOf h 14 = 3 + 1 := rfl
theorem sdX_14 {ω : XO} (hω : ω.2.2.2.1 = 1) : sd ω.2.2.2.1 14 = true := by rw [hω]; rfl
theorem ks_15 (h : hp) : kdOf h 15 = 40 + 10 * 8 + 0 := rfl
theorem sdX_15 {ω : XO} (hω : ω.2.2.2.1 = 1) : sd ω.2.2.2.1 15 = true := by rw [hω]; rfl
theorem ks_16 (h : hp) : kdOf h 16 = 40 + 10 * 5 + 4 := rfl
theorem sdX_16 {ω : XO} (hω : ω.2.2.2.1 = 1) : sd ω.2.2.2.1 16 = true := by rw [hω]; rfl
theorem ks_17 (h : hp) : kdOf h 17 = 40 + 10 * 5 + 0 := rfl
theorem sdX_17 {ω : XO} (hω : ω.2.2.2.1 = 1) : sd ω.2.2.2.1 17 = true := by rw [hω]; rfl
theorem ks_18 (h : hp) : kdOf h 18 = 40 + 10 * 20 + 0 := rfl
theorem sdX_18 {ω : XO} (hω : ω.2.2.2.1 = 1) : sd ω.2.2.2.1 18 = true := by rw [hω]; rfl
theorem ks_19 (h : hp) : kdOf h 19 = 3 + 1 := rfl
theorem sdX_19 {ω : XO} (hω : ω.2.2.2.1 = 1) : sd ω.2.2.2.1 19 = true := by rw [hω]; rfl
theorem ks_20 (h : hp) : kdOf h 20 = 40 + 10 * 5 + 0 := rfl
theorem sdX_20 {ω : XO} (hω : ω.2.2.2.1 = 1) : sd ω.2.2.2.1 20 = true := by rw [hω]; rfl
theorem ks_21 (h : hp) : kdOf h 21 = 3 + 1 := rfl
theorem sdX_21 {ω : XO} (hω : ω.2.2.2.1 = 1) : sd ω.2.2.2.1 21 = true := by rw [hω]; rfl
theorem ks_22 (h : hp) : kdOf h 22 = 40 + 10 * 8 + 0 := rfl
theorem sdX_22 {ω : XO} (hω : ω.2.2.2.1 = 1) : sd ω.2.2.2.1 22 = true := by rw [hω]; rfl
theorem ks_23 (h : hp) : kdOf h 23 = 3 + 1 := rfl
theorem sdX_23 {ω : XO} (hω : ω.2.2.2.1 = 1) : sd ω.2.2.2.1 23 = true := by rw [hω]; rfl
theorem ks_24 (h : hp) : kdOf h 24 = 40 + 10 * 8 + 0 := rfl
theorem sdX_24 {ω : XO} (hω : ω.2.2.2.1 = 1) : sd ω.2.2.2.1 24 = true := by rw [hω]; rfl
theorem ks_25 (h : hp) : kdOf h 25 = 3 + 1 := rfl
theorem sdX_25 {ω : XO} (hω : ω.2.2.2.1 = 1) : sd ω.2.2.2.1 25 = true := by rw [hω]; rfl
theorem ks_26 (h : hp) : kdOf h 26 = 40 + 10 * 100 + 0 := rfl
theorem sdX_26 {ω : XO} (hω : ω.2.2.2.1 = 1) : sd ω.2.2.2.1 26 = true := by rw [hω]; rfl
theorem ks_27 (h : hp) : kdOf h 27 = 10 + 1 := rfl
theorem sdX_27 {ω : XO} (hω : ω.2.2.2.1 = 1) : sd ω.2.2.2.1 27 = true := by rw [hω]; rfl
theorem ks_28 (h : hp) : kdOf h 28 = 40 + 10 * 10 + 0 := rfl
theorem sdX_28 {ω : XO} (hω : ω.2.2.2.1 = 1) : sd ω.2.2.2.1 28 = true := by rw [hω]; rfl
theorem ks_29 (h : hp) : kdOf h 29 = 40 + 10 * 10 + 0 := rfl
theorem sdX_29 {ω : XO} (hω : ω.2.2.2.1 = 1) : sd ω.2.2.2.1 29 = true := by rw [hω]; rfl
theorem ks_30 (h : hp) : kdOf h 30 = 40 + 10 * 10 + 0 := rfl
theorem sdX_30 {ω : XO} (hω : ω.2.2.2.1 = 1) : sd ω.2.2.2.1 30 = true := by rw [hω]; rfl
theorem ks_31 (h : hp) : kdOf h 31 = 40 + 10 * 100 + 0 := rfl
theorem sdX_31 {ω : XO} (hω : ω.2.2.2.1 = 1) : sd ω.2.2.2.1 31 = true := by rw [hω]; rfl
theorem ks_32 (h : hp) : kdOf h 32 = 40 + 10 * 6 + 5 := rfl
theorem sdX_32 {ω : XO} (hω : ω.2.2.2.1 = 1) : sd ω.2.2.2.1 32 = true := by rw [hω]; rfl
theorem ks_33 (h : hp) : kdOf h 33 = 0 + 1 := rfl
theorem sdX_33 {ω : XO} (hω : ω.2.2.2.1 = 1) : sd ω.2.2.2.1 33 = true := by rw [hω]; rfl
theorem ks_34 (h : hp) : kdOf h 34 = 40 + 10 * 16 + 1 := rfl
theorem sdX_34 {ω : XO} (hω : ω.2.2.2.1 = 1) : sd ω.2.2.2.1 34 = true := by rw [hω]; rfl
theorem ks_35 (h : hp) : kdOf h 35 = 40 + 10 * 6 + 0 := rfl
theorem sdX_35 {ω : XO} (hω : ω.2.2.2.1 = 1) : sd ω.2.2.2.1 35 = true := by rw [hω]; rfl
theorem ks_36 (h : hp) : kdOf h 36 = 40 + 10 * 16 + 3 := rfl
theorem sdX_36 {ω : XO} (hω : ω.2.2.2.1 = 1) : sd ω.2.2.2.1 36 = true := by rw [hω]; rfl
theorem ks_37 (h : hp) : kdOf h 37 = 40 + 10 * 5 + 0 := rfl
theorem sdX_37 {ω : XO} (hω : ω.2.2.2.1 = 1) : sd ω.2.2.2.1 37 = true := by rw [hω]; rfl
theorem ks_38 (h : hp) : kdOf h 38 = 40 + 10 * 5 + 0 := rfl
theorem sdX_38 {ω : XO} (hω : ω.2.2.2.1 = 1) : sd ω.2.2.2.1 38 = true := by rw [hω]; rfl
theorem ks_39 (h : hp) : kdOf h 39 = 7 + 1 := rfl
theorem sdX_39 {ω : XO} (hω : ω.2.2.2.1 = 1) : sd ω.2.2.2.1 39 = true := by rw [hω]; rfl
theorem ks_40 (h : hp) : kdOf h 40 = 40 + 10 * 60 + 3 := rfl
theorem sdX_40 {ω : XO} (hω : ω.2.2.2.1 = 1) : sd ω.2.2.2.1 40 = true := by rw [hω]; rfl
theorem ks_41 (h : hp) : kdOf h 41 = 7 + 1 := rfl
theorem sdX_41 {ω : XO} (hω : ω.2.2.2.1 = 1) : sd ω.2.2.2.1 41 = true := by rw [hω]; rfl
theorem ks_42 (h : hp) : kdOf h 42 = 40 + 10 * 60 + 3 := rfl
theorem sdX_42 {ω : XO} (hω : ω.2.2.2.1 = 1) : sd ω.2.2.2.1 42 = true := by rw [hω]; rfl
theorem ks_43 (h : hp) : kdOf h 43 = 7 + 1 := rfl
theorem sdX_43 {ω : XO} (hω : ω.2.2.2.1 = 1) : sd ω.2.2.2.1 43 = true := by rw [hω]; rfl
theorem ks_44 (h : hp) : kdOf h 44 = 40 + 10 * 60 + 3 := rfl
theorem sdX_44 {ω : XO} (hω : ω.2.2.2.1 = 1) : sd ω.2.2.2.1 44 = true := by rw [hω]; rfl
theorem ks_45 (h : hp) : kdOf h 45 = 7 + 1 := rfl
theorem sdX_45 {ω : XO} (hω : ω.2.2.2.1 = 1) : sd ω.2.2.2.1 45 = true := by rw [hω]; rfl
theorem ks_46 (h : hp) : kdOf h 46 = 40 + 10 * 60 + 3 := rfl
theorem sdX_46 {ω : XO} (hω : ω.2.2.2.1 = 1) : sd ω.2.2.2.1 46 = true := by rw [hω]; rfl
theorem ks_47 (h : hp) : kdOf h 47 = 7 + 1 := rfl
theorem sdX_47 {ω : XO} (hω : ω.2.2.2.1 = 1) : sd ω.2.2.2.1 47 = true := by rw [hω]; rfl
theorem ks_48 (h : hp) : kdOf h 48 = 40 + 10 * 60 + 3 := rfl
theorem sdX_48 {ω : XO} (hω : ω.2.2.2.1 = 1) : sd ω.2.2.2.1 48 = true := by rw [hω]; rfl
theorem ks_49 (h : hp) : kdOf h 49 = 7 + 1 := rfl
theorem sdX_49 {ω : XO} (hω : ω.2.2.2.1 = 1) : sd ω.2.2.2.1 49 = true := by rw [hω]; rfl
theorem ks_50 (h : hp) : kdOf h 50 = 40 + 10 * 60 + 3 := rfl
theorem sdX_50 {ω : XO} (hω : ω.2.2.2.1 = 1) : sd ω.2.2.2.1 50 = true := by rw [hω]; rfl
theorem ks_52 (h : hp) : kdOf h 52 = 13 + 1 := rfl
theorem sdM_52 {ω : XO} (hω : ω.2.2.2.1 = 0) : sd ω.2.2.2.1 52 = true := by rw [hω]; rfl
theorem ks_53 (h : hp) : kdOf h 53 = 40 + 10 * 8 + 0 := rfl
theorem sdM_53 {ω : XO} (hω : ω.2.2.2.1 = 0) : sd ω.2.2.2.1 53 = true := by rw [hω]; rfl
theorem ks_54 (h : hp) : kdOf h 54 = 40 + 10 * 5 + 0 := rfl
theorem sdM_54 {ω : XO} (hω : ω.2.2.2.1 = 0) : sd ω.2.2.2.1 54 = true := by rw [hω]; rfl
theorem ks_55 (h : hp) : kdOf h 55 = 40 + 10 * 5 + 0 := rfl
theorem sdM_55 {ω : XO} (hω : ω.2.2.2.1 = 0) : sd ω.2.2.2.1 55 = true := by rw [hω]; rfl
theorem ks_56 (h : hp) : kdOf h 56 = 40 + 10 * 5 + 0 := rfl
theorem sdM_56 {ω : XO} (hω : ω.2.2.2.1 = 0) : sd ω.2.2.2.1 56 = true := by rw [hω]; rfl
theorem ks_57 (h : hp) : kdOf h 57 = 40 + 10 * 20 + 0 := rfl
theorem sdM_57 {ω : XO} (hω : ω.2.2.2.1 = 0) : sd ω.2.2.2.1 57 = true := by rw [hω]; rfl
theorem ks_58 (h : hp) : kdOf h 58 = 40 + 10 * 100 + 0 := rfl
theorem sdM_58 {ω : XO} (hω : ω.2.2.2.1 = 0) : sd ω.2.2.2.1 58 = true := by rw [hω]; rfl
theorem ks_59 (h : hp) : kdOf h 59 = 40 + 10 * 6 + 0 := rfl
theorem sdM_59 {ω : XO} (hω : ω.2.2.2.1 = 0) : sd ω.2.2.2.1 59 = true := by rw [hω]; rfl
theorem ks_60 (h : hp) : kdOf h 60 = 40 + 10 * 60 + 0 := rfl
theorem sdM_60 {ω : XO} (hω : ω.2.2.2.1 = 0) : sd ω.2.2.2.1 60 = true := by rw [hω]; rfl
theorem ks_61 (h : hp) : kdOf h 61 = 40 + 10 * 60 + 0 := rfl
theorem sdM_61 {ω : XO} (hω : ω.2.2.2.1 = 0) : sd ω.2.2.2.1 61 = true := by rw [hω]; rfl
theorem ks_62 (h : hp) : kdOf h 62 = 40 + 10 * 60 + 0 := rfl
theorem sdM_62 {ω : XO} (hω : ω.2.2.2.1 = 0) : sd ω.2.2.2.1 62 = true := by rw [hω]; rfl
theorem ks_63 (h : hp) : kdOf h 63 = 40 + 10 * 60 + 0 := rfl
theorem sdM_63 {ω : XO} (hω : ω.2.2.2.1 = 0) : sd ω.2.2.2.1 63 = true := by rw [hω]; rfl
theorem ks_64 (h : hp) : kdOf h 64 = 40 + 10 * 600 + 0 := rfl
theorem sdM_64 {ω : XO} (hω : ω.2.2.2.1 = 0) : sd ω.2.2.2.1 64 = true := by rw [hω]; rfl
theorem ks_65 (h : hp) : kdOf h 65 = 40 + 10 * 101 + 0 := rfl
theorem sdM_65 {ω : XO} (hω : ω.2.2.2.1 = 0) : sd ω.2.2.2.1 65 = true := by rw [hω]; rfl
theorem ks_66 (h : hp) : kdOf h 66 = 40 + 10 * 16 + 0 := rfl
theorem sdM_66 {ω : XO} (hω : ω.2.2.2.1 = 0) : sd ω.2.2.2.1 66 = true := by rw [hω]; rfl
theorem ks_67 (h : hp) : kdOf h 67 = 40 + 10 * 100 + 2 := rfl
theorem sdM_67 {ω : XO} (hω : ω.2.2.2.1 = 0) : sd ω.2.2.2.1 67 = true := by rw [hω]; rfl
theorem ks_68 (h : hp) : kdOf h 68 = 40 + 10 * 1024 + 2 := rfl
theorem sdM_68 {ω : XO} (hω : ω.2.2.2.1 = 0) : sd ω.2.2.2.1 68 = true := by rw [hω]; rfl
theorem ks_69 (h : hp) : kdOf h 69 = 40 + 10 * 5 + 0 := rfl
theorem sdM_69 {ω : XO} (hω : ω.2.2.2.1 = 0) : sd ω.2.2.2.1 69 = true := by rw [hω]; rfl
theorem ks_70 (h : hp) : kdOf h 70 = 40 + 10 * 5 + 0 := rfl
theorem sdM_70 {ω : XO} (hω : ω.2.2.2.1 = 0) : sd ω.2.2.2.1 70 = true := by rw [hω]; rfl
theorem ks_71 (h : hp) : kdOf h 71 = 40 + 10 * 5 + 0 := rfl
theorem sdM_71 {ω : XO} (hω : ω.2.2.2.1 = 0) : sd ω.2.2.2.1 71 = true := by rw [hω]; rfl
theorem ks_72 (h : hp) : kdOf h 72 = 40 + 10 * 5 + 0 := rfl
theorem sdM_72 {ω : XO} (hω : ω.2.2.2.1 = 0) : sd ω.2.2.2.1 72 = true := by rw [hω]; rfl
theorem ks_73 (h : hp) : kdOf h 73 = 40 + 10 * 8 + 0 := rfl
theorem sdM_73 {ω : XO} (hω : ω.2.2.2.1 = 0) : sd ω.2.2.2.1 73 = true := by rw [hω]; rfl
theorem ks_74 (h : hp) : kdOf h 74 = 40 + 10 * 8 + 0 := rfl
theorem sdM_74 {ω : XO} (hω : ω.2.2.2.1 = 0) : sd ω.2.2.2.1 74 = true := by rw [hω]; rfl
theorem ks_75 (h : hp) : kdOf h 75 = 40 + 10 * 8 + 0 := rfl
theorem sdM_75 {ω : XO} (hω : ω.2.2.2.1 = 0) : sd ω.2.2.2.1 75 = true := by rw [hω]; rfl
theorem ks_76 (h : hp) : kdOf h 76 = 40 + 10 * 8 + 0 := rfl
theorem sdM_76 {ω : XO} (hω : ω.2.2.2.1 = 0) : sd ω.2.2.2.1 76 = true := by rw [hω]; rfl
theorem ks_77 (h : hp) : kdOf h 77 = 40 + 10 * 5 + 0 := rfl
theorem sdM_77 {ω : XO} (hω : ω.2.2.2.1 = 0) : sd ω.2.2.2.1 77 = true := by rw [hω]; rfl
theorem ks_78 (h : hp) : kdOf h 78 = 40 + 10 * 5 + 0 := rfl
theorem sdM_78 {ω : XO} (hω : ω.2.2.2.1 = 0) : sd ω.2.2.2.1 78 = true := by rw [hω]; rfl
theorem ks_79 (h : hp) : kdOf h 79 = 40 + 10 * 5 + 0 := rfl
theorem sdM_79 {ω : XO} (hω : ω.2.2.2.1 = 0) : sd ω.2.2.2.1 79 = true := by rw [hω]; rfl
theorem ks_80 (h : hp) : kdOf h 80 = 40 + 10 * 20 + 0 := rfl
theorem sdM_80 {ω : XO} (hω : ω.2.2.2.1 = 0) : sd ω.2.2.2.1 80 = true := by rw [hω]; rfl
theorem ks_81 (h : hp) : kdOf h 81 = 40 + 10 * 5 + 0 := rfl
theorem sdM_81 {ω : XO} (hω : ω.2.2.2.1 = 0) : sd ω.2.2.2.1 81 = true := by rw [hω]; rfl
theorem ks_82 (h : hp) : kdOf h 82 = 40 + 10 * 5 + 0 := rfl
theorem sdM_82 {ω : XO} (hω : ω.2.2.2.1 = 0) : sd ω.2.2.2.1 82 = true := by rw [hω]; rfl
theorem ks_83 (h : hp) : kdOf h 83 = 40 + 10 * 8 + 0 := rfl
theorem sdM_83 {ω : XO} (hω : ω.2.2.2.1 = 0) : sd ω.2.2.2.1 83 = true := by rw [hω]; rfl
theorem ks_84 (h : hp) : kdOf h 84 = 40 + 10 * 8 + 0 := rfl
theorem sdM_84 {ω : XO} (hω : ω.2.2.2.1 = 0) : sd ω.2.2.2.1 84 = true := by rw [hω]; rfl
theorem ks_85 (h : hp) : kdOf h 85 = 40 + 10 * 8 + 0 := rfl
theorem sdM_85 {ω : XO} (hω : ω.2.2.2.1 = 0) : sd ω.2.2.2.1 85 = true := by rw [hω]; rfl
theorem ks_86 (h : hp) : kdOf h 86 = 40 + 10 * 20 + 0 := rfl
theorem sdM_86 {ω : XO} (hω : ω.2.2.2.1 = 0) : sd ω.2.2.2.1 86 = true := by rw [hω]; rfl
theorem ks_87 (h : hp) : kdOf h 87 = 40 + 10 * 6 + 0 := rfl
theorem sdM_87 {ω : XO} (hω : ω.2.2.2.1 = 0) : sd ω.2.2.2.1 87 = true := by rw [hω]; rfl
theorem ks_88 (h : hp) : kdOf h 88 = 40 + 10 * 6 + 0 := rfl
theorem sdM_88 {ω : XO} (hω : ω.2.2.2.1 = 0) : sd ω.2.2.2.1 88 = true := by rw [hω]; rfl
theorem ks_89 (h : hp) : kdOf h 89 = 40 + 10 * 360 + 3 := rfl
theorem sdM_89 {ω : XO} (hω : ω.2.2.2.1 = 0) : sd ω.2.2.2.1 89 = true := by rw [hω]; rfl
theorem ks_90 (h : hp) : kdOf h 90 = 40 + 10 * 60 + 3 := rfl
theorem sdM_90 {ω : XO} (hω : ω.2.2.2.1 = 0) : sd ω.2.2.2.1 90 = true := by rw [hω]; rfl
