def f_X9_single_141 (S : hp → Nat → Int32 → Option (hp × Int32)) (h : hp) (a30 : Int32) : Option (hp × Int32) := (ckZ a30
 (some (h, a30)))
def f_X9_single_140 (S : hp → Nat → Int32 → Option (hp × Int32)) (h : hp) : Option (hp × Int32) := (f_X9_single_141 S h (0 : Int32))
def f_X9_single_111 (S : hp → Nat → Int32 → Option (hp × Int32)) (h : hp) (a25 : Nat) (a26 : Int32) (a27 : Int32) (a28 : Int32) : Option (hp × Int32) := (if a28 < 0 then
 (f_X9_single_140 S h)
 else
 (ckO 1 h a25 11
 (bnd (f_X9_addStep h a25 ((((a26 * (3 : Int32)) + a27) * (100 : Int32)) + a28)) fun h33 r34 =>
 (if r34 = 0 then
 (f_X9_single_140 S h33)
 else
 (f_X9_single_141 S h33 (1 : Int32))))))
def f_X9_single_98 (S : hp → Nat → Int32 → Option (hp × Int32)) (h : hp) (a21 : Nat) (a22 : Int32) (a23 : Int32) : Option (hp × Int32) := (if a23 < 0 then
 (f_X9_single_111 S h a21 a22 a23 (-1 : Int32))
 else
 (ckO 1 h a21 11
 (bnd (f_X9_number h a21) fun h38 r39 =>
 (f_X9_single_111 S h38 a21 a22 a23 r39))))
def f_X9_single_77 (S : hp → Nat → Int32 → Option (hp × Int32)) (h : hp) (a15 : Nat) : Option (hp × Int32) := (ckO 1 h a15 11
 (bnd (f_X9_acceptOneOf h a15 2) fun h17 r18 =>
 (if r18 < 0 then
 (f_X9_single_98 S h17 a15 r18 (-1 : Int32))
 else
 (ckO 1 h17 a15 11
 (bnd (f_X9_acceptOneOf h17 a15 3) fun h42 r43 =>
 (f_X9_single_98 S h42 a15 r18 r43))))))
def f_X9_single_76 (S : hp → Nat → Int32 → Option (hp × Int32)) (h : hp) (a50 : Int32) : Option (hp × Int32) := (ckZ a50
 (some (h, a50)))
def f_X9_single_75 (S : hp → Nat → Int32 → Option (hp × Int32)) (h : hp) : Option (hp × Int32) := (f_X9_single_76 S h (0 : Int32))
def f_X9_single_38 (S : hp → Nat → Int32 → Option (hp × Int32)) (h : hp) (a7 : Nat) (a8 : Int32) : Option (hp × Int32) := (if a8 < (4 : Int32) then
 (ckO 1 h a7 11
 (bnd (f_X9_accept h a7 (40 : Int32)) fun h11 r12 =>
 (if r12 = 0 then
 (f_X9_single_77 S h11 a7)
 else
 (ckO 1 h11 a7 11
 (bnd (f_X9_either S h11 a7 (a8 + (1 : Int32))) fun h46 r47 =>
 (if r47 = 0 then
 (f_X9_single_75 S h46)
 else
 (ckO 1 h46 a7 11
 (bnd (f_X9_accept h46 a7 (41 : Int32)) fun h53 r54 =>
 (if r54 = 0 then
 (f_X9_single_75 S h53)
 else
 (f_X9_single_76 S h53 (1 : Int32)))))))))))
 else
 (f_X9_single_77 S h a7))
def f_X9_single_37 (S : hp → Nat → Int32 → Option (hp × Int32)) (h : hp) (a62 : Int32) : Option (hp × Int32) := (ckZ a62
 (some (h, a62)))
def f_X9_single_36 (S : hp → Nat → Int32 → Option (hp × Int32)) (h : hp) : Option (hp × Int32) := (f_X9_single_37 S h (0 : Int32))
def f_X9_singleB (S : hp → Nat → Int32 → Option (hp × Int32)) (h : hp) (o : Nat) (p0 : Int32) : Option (hp × Int32) := (if p0 < (4 : Int32) then
 (ckO 1 h o 11
 (bnd (f_X9_accept h o (33 : Int32)) fun h3 r4 =>
 (if r4 = 0 then
 (f_X9_single_38 S h3 o p0)
 else
 (ckO 1 h3 o 11
 (bnd (S h3 o (p0 + (1 : Int32))) fun h58 r59 =>
 (if r59 = 0 then
 (f_X9_single_36 S h58)
 else
 (ckO 1 h58 o 11
 (bnd (f_X9_addStep h58 o (-1 : Int32)) fun h65 r66 =>
 (if r66 = 0 then
 (f_X9_single_36 S h65)
 else
 (f_X9_single_37 S h65 (1 : Int32)))))))))))
 else
 (f_X9_single_38 S h o p0))
def f_X9_single : Nat → hp → Nat → Int32 → Option (hp × Int32)
  | 0, _, _, _ => none
  | n + 1, h, o, p0 => f_X9_singleB (f_X9_single n) h o p0
set_option maxRecDepth 100000 in
set_option maxHeartbeats 4000000 in
theorem k_X9_single_141 {ω : XO} (hω : ω.2.2.2.1 = 1) {S : hp → Nat → Int32 → Option (hp × Int32)} {F Lc : Nat} {κ : XK} (X : XC ω (rm_X9_single F Lc) 5 κ cX9_single "SignalBlind$Ward") {L : List Nat} {q : Nat → Nat} {h' : hp} {r : Int32} (R : XRet ω (rm_X9_single F Lc) κ (some .boolean) L q h' (some (.int r))) (hF : 6 ≤ F) (hLc : 200 ≤ Lc) (hS : ∀ (h h' : hp) (o : Nat) (p0 r : Int32), S h o p0 = some (h', r) → XM ω yX9_single cX9_single 5 (some .boolean) (rmB F Lc) L q h [.ref (q o), .int p0] (some (.int r)) h') : ∀ (h : hp) (a30 : Int32), f_X9_single_141 S h a30 = some (h', r) → XG ω (rm_X9_single F Lc) 5 κ L q h 0 0 141 [] [.int a30] := by
  intro h a30 hf
  unfold f_X9_single_141 at hf
  obtain ⟨z31, hf⟩ := ckZ_some hf
  exact x_retSZ X R z31 hf dX9_single_141
set_option maxRecDepth 100000 in
set_option maxHeartbeats 4000000 in
theorem k_X9_single_140 {ω : XO} (hω : ω.2.2.2.1 = 1) {S : hp → Nat → Int32 → Option (hp × Int32)} {F Lc : Nat} {κ : XK} (X : XC ω (rm_X9_single F Lc) 5 κ cX9_single "SignalBlind$Ward") {L : List Nat} {q : Nat → Nat} {h' : hp} {r : Int32} (R : XRet ω (rm_X9_single F Lc) κ (some .boolean) L q h' (some (.int r))) (hF : 6 ≤ F) (hLc : 200 ≤ Lc) (hS : ∀ (h h' : hp) (o : Nat) (p0 r : Int32), S h o p0 = some (h', r) → XM ω yX9_single cX9_single 5 (some .boolean) (rmB F Lc) L q h [.ref (q o), .int p0] (some (.int r)) h') : ∀ (h : hp), f_X9_single_140 S h = some (h', r) → XG ω (rm_X9_single F Lc) 5 κ L q h 0 0 140 [] [] := by
  intro h hf
  unfold f_X9_single_140 at hf
  refine x_iconst X (v := 0) dX9_single_140 (by decide) ?_
  refine x_lv [] rfl ?_
  exact k_X9_single_141 hω X R hF hLc hS h _ hf
set_option maxRecDepth 100000 in
set_option maxHeartbeats 4000000 in
theorem k_X9_single_111 {ω : XO} (hω : ω.2.2.2.1 = 1) {S : hp → Nat → Int32 → Option (hp × Int32)} {F Lc : Nat} {κ : XK} (X : XC ω (rm_X9_single F Lc) 5 κ cX9_single "SignalBlind$Ward") {L : List Nat} {q : Nat → Nat} {h' : hp} {r : Int32} (R : XRet ω (rm_X9_single F Lc) κ (some .boolean) L q h' (some (.int r))) (hF : 6 ≤ F) (hLc : 200 ≤ Lc) (hS : ∀ (h h' : hp) (o : Nat) (p0 r : Int32), S h o p0 = some (h', r) → XM ω yX9_single cX9_single 5 (some .boolean) (rmB F Lc) L q h [.ref (q o), .int p0] (some (.int r)) h') : ∀ (h : hp) (a25 : Nat) (a26 : Int32) (a27 : Int32) (a28 : Int32), f_X9_single_111 S h a25 a26 a27 a28 = some (h', r) → XG ω (rm_X9_single F Lc) 5 κ L q h 0 0 111 [(0, .ref (q a25)), (2, .int a26), (3, .int a27)] [.int a28] := by
  intro h a25 a26 a27 a28 hf
  unfold f_X9_single_111 at hf
  refine x_istore X [(4, .int a28), (0, .ref (q a25)), (2, .int a26), (3, .int a27)] dX9_single_111 (Nat.le_of_ble_eq_true rfl) rfl ?_
  refine x_iload X dX9_single_113 0 rfl ?_
  refine x_if_lt X 140 dX9_single_115 (by decide) (fun c29 => ?_) (fun c29 => ?_)
  · replace hf := (if_pos c29).symm.trans hf
    refine x_lv [] rfl ?_
    exact k_X9_single_140 hω X R hF hLc hS h hf
  · replace hf := (if_neg c29).symm.trans hf
    refine x_aload_n X dX9_single_118 1 rfl rfl ?_
    refine x_iload_n X dX9_single_119 2 rfl rfl ?_
    refine x_iconst X (v := 3) dX9_single_120 (by decide) ?_
    refine x_imul X dX9_single_121 ?_
    refine x_iload_n X dX9_single_122 3 rfl rfl ?_
    refine x_iadd X dX9_single_123 ?_
    refine x_bipush X (v := 100) dX9_single_124 (by decide) ?_
    refine x_imul X dX9_single_126 ?_
    refine x_iload X dX9_single_127 0 rfl ?_
    refine x_iadd X dX9_single_129 ?_
    obtain ⟨b32, hf⟩ := ckO_some hf
    obtain ⟨h33, r34, g35, hf⟩ := bnd_some hf
    refine c_X9_79 X hω g35 (sd_of hω b32.1) b32.2 (hR := (by constructor <;> simp only [rm_X9_single, rm_X9_both, rm_X9_either, rmB, rm_X9_addStep] <;> omega)) ⟨Nat.zero_le _, Nat.zero_le _⟩ (Nat.le_of_ble_eq_true rfl) dX9_single_130 ?_
    refine x_if_eq X 140 dX9_single_133 (by decide) (fun c36 => ?_) (fun c36 => ?_)
    · replace hf := (if_pos c36).symm.trans hf
      refine x_lv [] rfl ?_
      exact k_X9_single_140 hω X R hF hLc hS h33 hf
    · replace hf := (if_neg c36).symm.trans hf
      refine x_iconst X (v := 1) dX9_single_136 (by decide) ?_
      refine x_goto X 141 dX9_single_137 (by decide) ?_
      refine x_lv [] rfl ?_
      exact k_X9_single_141 hω X R hF hLc hS h33 _ hf
set_option maxRecDepth 100000 in
set_option maxHeartbeats 4000000 in
theorem k_X9_single_98 {ω : XO} (hω : ω.2.2.2.1 = 1) {S : hp → Nat → Int32 → Option (hp × Int32)} {F Lc : Nat} {κ : XK} (X : XC ω (rm_X9_single F Lc) 5 κ cX9_single "SignalBlind$Ward") {L : List Nat} {q : Nat → Nat} {h' : hp} {r : Int32} (R : XRet ω (rm_X9_single F Lc) κ (some .boolean) L q h' (some (.int r))) (hF : 6 ≤ F) (hLc : 200 ≤ Lc) (hS : ∀ (h h' : hp) (o : Nat) (p0 r : Int32), S h o p0 = some (h', r) → XM ω yX9_single cX9_single 5 (some .boolean) (rmB F Lc) L q h [.ref (q o), .int p0] (some (.int r)) h') : ∀ (h : hp) (a21 : Nat) (a22 : Int32) (a23 : Int32), f_X9_single_98 S h a21 a22 a23 = some (h', r) → XG ω (rm_X9_single F Lc) 5 κ L q h 0 0 98 [(0, .ref (q a21)), (2, .int a22)] [.int a23] := by
  intro h a21 a22 a23 hf
  unfold f_X9_single_98 at hf
  refine x_istore_n X [(3, .int a23), (0, .ref (q a21)), (2, .int a22)] dX9_single_98 rfl (Nat.le_of_ble_eq_true rfl) rfl ?_
  refine x_iload_n X dX9_single_99 0 rfl rfl ?_
  refine x_if_ge X 107 dX9_single_100 (by decide) (fun c24 => ?_) (fun c24 => ?_)
  · replace hf := (if_pos c24).symm.trans hf
    refine x_iconst X (v := -1) dX9_single_103 (by decide) ?_
    refine x_goto X 111 dX9_single_104 (by decide) ?_
    refine x_lv [1, 2, 0] rfl ?_
    exact k_X9_single_111 hω X R hF hLc hS h _ _ _ _ hf
  · replace hf := (if_neg c24).symm.trans hf
    refine x_aload_n X dX9_single_107 1 rfl rfl ?_
    obtain ⟨b37, hf⟩ := ckO_some hf
    obtain ⟨h38, r39, g40, hf⟩ := bnd_some hf
    refine c_X9_68 X hω g40 (sd_of hω b37.1) b37.2 (hR := (by constructor <;> simp only [rm_X9_single, rm_X9_both, rm_X9_either, rmB, rm_X9_number] <;> omega)) ⟨Nat.zero_le _, Nat.zero_le _⟩ (Nat.le_of_ble_eq_true rfl) dX9_single_108 ?_
    refine x_lv [1, 2, 0] rfl ?_
    exact k_X9_single_111 hω X R hF hLc hS h38 _ _ _ _ hf
set_option maxRecDepth 100000 in
set_option maxHeartbeats 4000000 in
theorem k_X9_single_77 {ω : XO} (hω : ω.2.2.2.1 = 1) {S : hp → Nat → Int32 → Option (hp × Int32)} {F Lc : Nat} {κ : XK} (X : XC ω (rm_X9_single F Lc) 5 κ cX9_single "SignalBlind$Ward") {L : List Nat} {q : Nat → Nat} {h' : hp} {r : Int32} (R : XRet ω (rm_X9_single F Lc) κ (some .boolean) L q h' (some (.int r))) (hF : 6 ≤ F) (hLc : 200 ≤ Lc) (hS : ∀ (h h' : hp) (o : Nat) (p0 r : Int32), S h o p0 = some (h', r) → XM ω yX9_single cX9_single 5 (some .boolean) (rmB F Lc) L q h [.ref (q o), .int p0] (some (.int r)) h') : ∀ (h : hp) (a15 : Nat), f_X9_single_77 S h a15 = some (h', r) → XG ω (rm_X9_single F Lc) 5 κ L q h 0 0 77 [(0, .ref (q a15))] [] := by
  intro h a15 hf
  unfold f_X9_single_77 at hf
  refine x_aload_n X dX9_single_77 0 rfl rfl ?_
  refine x_ldcS X 2 rfl dX9_single_78 ?_
  obtain ⟨b16, hf⟩ := ckO_some hf
  obtain ⟨h17, r18, g19, hf⟩ := bnd_some hf
  refine c_X9_56 X hω g19 (sd_of hω b16.1) b16.2 (hR := (by constructor <;> simp only [rm_X9_single, rm_X9_both, rm_X9_either, rmB, rm_X9_acceptOneOf] <;> omega)) ⟨Nat.zero_le _, Nat.zero_le _⟩ (Nat.le_of_ble_eq_true rfl) dX9_single_80 ?_
  refine x_istore_n X [(2, .int r18), (0, .ref (q a15))] dX9_single_83 rfl (Nat.le_of_ble_eq_true rfl) rfl ?_
  refine x_iload_n X dX9_single_84 0 rfl rfl ?_
  refine x_if_ge X 92 dX9_single_85 (by decide) (fun c20 => ?_) (fun c20 => ?_)
  · replace hf := (if_pos c20).symm.trans hf
    refine x_iconst X (v := -1) dX9_single_88 (by decide) ?_
    refine x_goto X 98 dX9_single_89 (by decide) ?_
    refine x_lv [1, 0] rfl ?_
    exact k_X9_single_98 hω X R hF hLc hS h17 _ _ _ hf
  · replace hf := (if_neg c20).symm.trans hf
    refine x_aload_n X dX9_single_92 1 rfl rfl ?_
    refine x_ldcS X 3 rfl dX9_single_93 ?_
    obtain ⟨b41, hf⟩ := ckO_some hf
    obtain ⟨h42, r43, g44, hf⟩ := bnd_some hf
    refine c_X9_56 X hω g44 (sd_of hω b41.1) b41.2 (hR := (by constructor <;> simp only [rm_X9_single, rm_X9_both, rm_X9_either, rmB, rm_X9_acceptOneOf] <;> omega)) ⟨Nat.zero_le _, Nat.zero_le _⟩ (Nat.le_of_ble_eq_true rfl) dX9_single_95 ?_
    refine x_lv [1, 0] rfl ?_
    exact k_X9_single_98 hω X R hF hLc hS h42 _ _ _ hf
set_option maxRecDepth 100000 in
set_option maxHeartbeats 4000000 in
theorem k_X9_single_76 {ω : XO} (hω : ω.2.2.2.1 = 1) {S : hp → Nat → Int32 → Option (hp × Int32)} {F Lc : Nat} {κ : XK} (X : XC ω (rm_X9_single F Lc) 5 κ cX9_single "SignalBlind$Ward") {L : List Nat} {q : Nat → Nat} {h' : hp} {r : Int32} (R : XRet ω (rm_X9_single F Lc) κ (some .boolean) L q h' (some (.int r))) (hF : 6 ≤ F) (hLc : 200 ≤ Lc) (hS : ∀ (h h' : hp) (o : Nat) (p0 r : Int32), S h o p0 = some (h', r) → XM ω yX9_single cX9_single 5 (some .boolean) (rmB F Lc) L q h [.ref (q o), .int p0] (some (.int r)) h') : ∀ (h : hp) (a50 : Int32), f_X9_single_76 S h a50 = some (h', r) → XG ω (rm_X9_single F Lc) 5 κ L q h 0 0 76 [] [.int a50] := by
  intro h a50 hf
  unfold f_X9_single_76 at hf
  obtain ⟨z51, hf⟩ := ckZ_some hf
  exact x_retSZ X R z51 hf dX9_single_76
set_option maxRecDepth 100000 in
set_option maxHeartbeats 4000000 in
theorem k_X9_single_75 {ω : XO} (hω : ω.2.2.2.1 = 1) {S : hp → Nat → Int32 → Option (hp × Int32)} {F Lc : Nat} {κ : XK} (X : XC ω (rm_X9_single F Lc) 5 κ cX9_single "SignalBlind$Ward") {L : List Nat} {q : Nat → Nat} {h' : hp} {r : Int32} (R : XRet ω (rm_X9_single F Lc) κ (some .boolean) L q h' (some (.int r))) (hF : 6 ≤ F) (hLc : 200 ≤ Lc) (hS : ∀ (h h' : hp) (o : Nat) (p0 r : Int32), S h o p0 = some (h', r) → XM ω yX9_single cX9_single 5 (some .boolean) (rmB F Lc) L q h [.ref (q o), .int p0] (some (.int r)) h') : ∀ (h : hp), f_X9_single_75 S h = some (h', r) → XG ω (rm_X9_single F Lc) 5 κ L q h 0 0 75 [] [] := by
  intro h hf
  unfold f_X9_single_75 at hf
  refine x_iconst X (v := 0) dX9_single_75 (by decide) ?_
  refine x_lv [] rfl ?_
  exact k_X9_single_76 hω X R hF hLc hS h _ hf
set_option maxRecDepth 100000 in
set_option maxHeartbeats 4000000 in
theorem k_X9_single_38 {ω : XO} (hω : ω.2.2.2.1 = 1) {S : hp → Nat → Int32 → Option (hp × Int32)} {F Lc : Nat} {κ : XK} (X : XC ω (rm_X9_single F Lc) 5 κ cX9_single "SignalBlind$Ward") {L : List Nat} {q : Nat → Nat} {h' : hp} {r : Int32} (R : XRet ω (rm_X9_single F Lc) κ (some .boolean) L q h' (some (.int r))) (hF : 6 ≤ F) (hLc : 200 ≤ Lc) (hS : ∀ (h h' : hp) (o : Nat) (p0 r : Int32), S h o p0 = some (h', r) → XM ω yX9_single cX9_single 5 (some .boolean) (rmB F Lc) L q h [.ref (q o), .int p0] (some (.int r)) h') : ∀ (h : hp) (a7 : Nat) (a8 : Int32), f_X9_single_38 S h a7 a8 = some (h', r) → XG ω (rm_X9_single F Lc) 5 κ L q h 0 0 38 [(0, .ref (q a7)), (1, .int a8)] [] := by
  intro h a7 a8 hf
  unfold f_X9_single_38 at hf
  refine x_iload_n X dX9_single_38 1 rfl rfl ?_
  refine x_iconst X (v := 4) dX9_single_39 (by decide) ?_
  refine x_icmp_ge X 77 dX9_single_40 (by decide) (fun c9 => ?_) (fun c9 => ?_)
  · replace hf := (if_pos c9).symm.trans hf
    refine x_aload_n X dX9_single_43 0 rfl rfl ?_
    refine x_bipush X (v := 40) dX9_single_44 (by decide) ?_
    obtain ⟨b10, hf⟩ := ckO_some hf
    obtain ⟨h11, r12, g13, hf⟩ := bnd_some hf
    refine c_X9_45 X hω g13 (sd_of hω b10.1) b10.2 (hR := (by constructor <;> simp only [rm_X9_single, rm_X9_both, rm_X9_either, rmB, rm_X9_accept] <;> omega)) ⟨Nat.zero_le _, Nat.zero_le _⟩ (Nat.le_of_ble_eq_true rfl) dX9_single_46 ?_
    refine x_if_eq X 77 dX9_single_49 (by decide) (fun c14 => ?_) (fun c14 => ?_)
    · replace hf := (if_pos c14).symm.trans hf
      refine x_lv [0] rfl ?_
      exact k_X9_single_77 hω X R hF hLc hS h11 _ hf
    · replace hf := (if_neg c14).symm.trans hf
      refine x_aload_n X dX9_single_52 0 rfl rfl ?_
      refine x_iload_n X dX9_single_53 1 rfl rfl ?_
      refine x_iconst X (v := 1) dX9_single_54 (by decide) ?_
      refine x_iadd X dX9_single_55 ?_
      obtain ⟨b45, hf⟩ := ckO_some hf
      obtain ⟨h46, r47, g48, hf⟩ := bnd_some hf
      refine cR_X9_72 X hω (k_X9_either hω hF hLc hS g48) (sd_of hω b45.1) b45.2 (hR := (by constructor <;> simp only [rm_X9_single, rm_X9_both, rm_X9_either, rmB] <;> omega)) ⟨rfl, rfl⟩ ⟨Nat.zero_le _, Nat.zero_le _⟩ (Nat.le_of_ble_eq_true rfl) dX9_single_56 ?_
      refine x_if_eq X 75 dX9_single_59 (by decide) (fun c49 => ?_) (fun c49 => ?_)
      · replace hf := (if_pos c49).symm.trans hf
        refine x_lv [] rfl ?_
        exact k_X9_single_75 hω X R hF hLc hS h46 hf
      · replace hf := (if_neg c49).symm.trans hf
        refine x_aload_n X dX9_single_62 0 rfl rfl ?_
        refine x_bipush X (v := 41) dX9_single_63 (by decide) ?_
        obtain ⟨b52, hf⟩ := ckO_some hf
        obtain ⟨h53, r54, g55, hf⟩ := bnd_some hf
        refine c_X9_45 X hω g55 (sd_of hω b52.1) b52.2 (hR := (by constructor <;> simp only [rm_X9_single, rm_X9_both, rm_X9_either, rmB, rm_X9_accept] <;> omega)) ⟨Nat.zero_le _, Nat.zero_le _⟩ (Nat.le_of_ble_eq_true rfl) dX9_single_65 ?_
        refine x_if_eq X 75 dX9_single_68 (by decide) (fun c56 => ?_) (fun c56 => ?_)
        · replace hf := (if_pos c56).symm.trans hf
          refine x_lv [] rfl ?_
          exact k_X9_single_75 hω X R hF hLc hS h53 hf
        · replace hf := (if_neg c56).symm.trans hf
          refine x_iconst X (v := 1) dX9_single_71 (by decide) ?_
          refine x_goto X 76 dX9_single_72 (by decide) ?_
          refine x_lv [] rfl ?_
          exact k_X9_single_76 hω X R hF hLc hS h53 _ hf
  · replace hf := (if_neg c9).symm.trans hf
    refine x_lv [0] rfl ?_
    exact k_X9_single_77 hω X R hF hLc hS h _ hf
set_option maxRecDepth 100000 in
set_option maxHeartbeats 4000000 in
theorem k_X9_single_37 {ω : XO} (hω : ω.2.2.2.1 = 1) {S : hp → Nat → Int32 → Option (hp × Int32)} {F Lc : Nat} {κ : XK} (X : XC ω (rm_X9_single F Lc) 5 κ cX9_single "SignalBlind$Ward") {L : List Nat} {q : Nat → Nat} {h' : hp} {r : Int32} (R : XRet ω (rm_X9_single F Lc) κ (some .boolean) L q h' (some (.int r))) (hF : 6 ≤ F) (hLc : 200 ≤ Lc) (hS : ∀ (h h' : hp) (o : Nat) (p0 r : Int32), S h o p0 = some (h', r) → XM ω yX9_single cX9_single 5 (some .boolean) (rmB F Lc) L q h [.ref (q o), .int p0] (some (.int r)) h') : ∀ (h : hp) (a62 : Int32), f_X9_single_37 S h a62 = some (h', r) → XG ω (rm_X9_single F Lc) 5 κ L q h 0 0 37 [] [.int a62] := by
  intro h a62 hf
  unfold f_X9_single_37 at hf
  obtain ⟨z63, hf⟩ := ckZ_some hf
  exact x_retSZ X R z63 hf dX9_single_37
set_option maxRecDepth 100000 in
set_option maxHeartbeats 4000000 in
theorem k_X9_single_36 {ω : XO} (hω : ω.2.2.2.1 = 1) {S : hp → Nat → Int32 → Option (hp × Int32)} {F Lc : Nat} {κ : XK} (X : XC ω (rm_X9_single F Lc) 5 κ cX9_single "SignalBlind$Ward") {L : List Nat} {q : Nat → Nat} {h' : hp} {r : Int32} (R : XRet ω (rm_X9_single F Lc) κ (some .boolean) L q h' (some (.int r))) (hF : 6 ≤ F) (hLc : 200 ≤ Lc) (hS : ∀ (h h' : hp) (o : Nat) (p0 r : Int32), S h o p0 = some (h', r) → XM ω yX9_single cX9_single 5 (some .boolean) (rmB F Lc) L q h [.ref (q o), .int p0] (some (.int r)) h') : ∀ (h : hp), f_X9_single_36 S h = some (h', r) → XG ω (rm_X9_single F Lc) 5 κ L q h 0 0 36 [] [] := by
  intro h hf
  unfold f_X9_single_36 at hf
  refine x_iconst X (v := 0) dX9_single_36 (by decide) ?_
  refine x_lv [] rfl ?_
  exact k_X9_single_37 hω X R hF hLc hS h _ hf
set_option maxRecDepth 100000 in
set_option maxHeartbeats 4000000 in
theorem k_X9_singleB {ω : XO} (hω : ω.2.2.2.1 = 1) {L : List Nat} {q : Nat → Nat} {S : hp → Nat → Int32 → Option (hp × Int32)} {F Lc : Nat} (hF : 6 ≤ F) (hLc : 200 ≤ Lc) (hS : ∀ (h h' : hp) (o : Nat) (p0 r : Int32), S h o p0 = some (h', r) → XM ω yX9_single cX9_single 5 (some .boolean) (rmB F Lc) L q h [.ref (q o), .int p0] (some (.int r)) h') {h h' : hp} {o : Nat} {p0 r : Int32} (hf : f_X9_singleB S h o p0 = some (h', r)) : XM ω yX9_single cX9_single 5 (some .boolean) (rm_X9_single F Lc) L q h [.ref (q o), .int p0] (some (.int r)) h' := by
  refine XM_intro [(0, .ref (q o)), (1, .int p0)] "SignalBlind$Ward" (by decide) rfl rfl (Nat.le_of_ble_eq_true rfl) (fun κ X R => ?_)
  unfold f_X9_singleB at hf
  refine x_iload_n X dX9_single_0 1 rfl rfl ?_
  refine x_iconst X (v := 4) dX9_single_1 (by decide) ?_
  refine x_icmp_ge X 38 dX9_single_2 (by decide) (fun c1 => ?_) (fun c1 => ?_)
  · replace hf := (if_pos c1).symm.trans hf
    refine x_aload_n X dX9_single_5 0 rfl rfl ?_
    refine x_bipush X (v := 33) dX9_single_6 (by decide) ?_
    obtain ⟨b2, hf⟩ := ckO_some hf
    obtain ⟨h3, r4, g5, hf⟩ := bnd_some hf
    refine c_X9_45 X hω g5 (sd_of hω b2.1) b2.2 (hR := (by constructor <;> simp only [rm_X9_single, rm_X9_both, rm_X9_either, rmB, rm_X9_accept] <;> omega)) ⟨Nat.zero_le _, Nat.zero_le _⟩ (Nat.le_of_ble_eq_true rfl) dX9_single_8 ?_
    refine x_if_eq X 38 dX9_single_11 (by decide) (fun c6 => ?_) (fun c6 => ?_)
    · replace hf := (if_pos c6).symm.trans hf
      refine x_lv [0, 1] rfl ?_
      exact k_X9_single_38 hω X R hF hLc hS h3 _ _ hf
    · replace hf := (if_neg c6).symm.trans hf
      refine x_aload_n X dX9_single_14 0 rfl rfl ?_
      refine x_iload_n X dX9_single_15 1 rfl rfl ?_
      refine x_iconst X (v := 1) dX9_single_16 (by decide) ?_
      refine x_iadd X dX9_single_17 ?_
      obtain ⟨b57, hf⟩ := ckO_some hf
      obtain ⟨h58, r59, g60, hf⟩ := bnd_some hf
      refine cR_X9_82 X hω (hS _ _ _ _ _ g60) (sd_of hω b57.1) b57.2 (hR := (by constructor <;> simp only [rm_X9_single, rm_X9_both, rm_X9_either, rmB] <;> omega)) ⟨rfl, rfl⟩ ⟨Nat.zero_le _, Nat.zero_le _⟩ (Nat.le_of_ble_eq_true rfl) dX9_single_18 ?_
      refine x_if_eq X 36 dX9_single_21 (by decide) (fun c61 => ?_) (fun c61 => ?_)
      · replace hf := (if_pos c61).symm.trans hf
        refine x_lv [] rfl ?_
        exact k_X9_single_36 hω X R hF hLc hS h58 hf
      · replace hf := (if_neg c61).symm.trans hf
        refine x_aload_n X dX9_single_24 0 rfl rfl ?_
        refine x_iconst X (v := -1) dX9_single_25 (by decide) ?_
        obtain ⟨b64, hf⟩ := ckO_some hf
        obtain ⟨h65, r66, g67, hf⟩ := bnd_some hf
        refine c_X9_79 X hω g67 (sd_of hω b64.1) b64.2 (hR := (by constructor <;> simp only [rm_X9_single, rm_X9_both, rm_X9_either, rmB, rm_X9_addStep] <;> omega)) ⟨Nat.zero_le _, Nat.zero_le _⟩ (Nat.le_of_ble_eq_true rfl) dX9_single_26 ?_
        refine x_if_eq X 36 dX9_single_29 (by decide) (fun c68 => ?_) (fun c68 => ?_)
        · replace hf := (if_pos c68).symm.trans hf
          refine x_lv [] rfl ?_
          exact k_X9_single_36 hω X R hF hLc hS h65 hf
        · replace hf := (if_neg c68).symm.trans hf
          refine x_iconst X (v := 1) dX9_single_32 (by decide) ?_
          refine x_goto X 37 dX9_single_33 (by decide) ?_
          refine x_lv [] rfl ?_
          exact k_X9_single_37 hω X R hF hLc hS h65 _ hf
  · replace hf := (if_neg c1).symm.trans hf
    refine x_lv [0, 1] rfl ?_
    exact k_X9_single_38 hω X R hF hLc hS h _ _ hf
theorem k_X9_single {ω : XO} (hω : ω.2.2.2.1 = 1) {L : List Nat} {q : Nat → Nat} : ∀ (n : Nat) {h h' : hp} {o : Nat} {p0 r : Int32}, f_X9_single n h o p0 = some (h', r) → XM ω yX9_single cX9_single 5 (some .boolean) (rmB (6 + 3 * n) (200 + 70 * n)) L q h [.ref (q o), .int p0] (some (.int r)) h' := by
  intro n
  induction n with
  | zero => intro h h' o p0 r hf; have hf : (none : Option (hp × Int32)) = some (h', r) := hf; cases hf
  | succ n ih =>
    intro h h' o p0 r hf
    exact k_X9_singleB hω (F := 6 + 3 * n) (Lc := 200 + 70 * n) (Nat.le_add_right _ _) (Nat.le_add_right _ _) (fun _ _ _ _ _ => ih) hf

abbrev rm_X9_clause : Room := { frames := 27, cells := 0, slots := 0, locals := 690 }
def f_X9_clause_20 (h : hp) : Option (hp × Int32) := (some (h, (0 : Int32)))
def f_X9_clause_110 (h : hp) (a34 : Nat) (a35 : Int32) (a36 : Int32) : Option (hp × Int32) := (ckO 1 h a34 11
 (ckO 1 h a34 11
 (ckA 1 h (a34 + 1) 0
 (chk (hI h a34 3) (alen h (a34 + 1))
 (nm (tI h (a34 + 1) ((hI h a34 3)).toNatClampNeg a35) fun h41 =>
 (ckO 1 h41 a34 11
 (ckO 1 h41 a34 11
 (ckA 1 h41 (a34 + 2) 0
 (chk (hI h41 a34 3) (alen h41 (a34 + 2))
 (nm (tI h41 (a34 + 2) ((hI h41 a34 3)).toNatClampNeg a36) fun h46 =>
 (ckO 1 h46 a34 11
 (ckO 1 h46 a34 11
 (ckO 1 h46 a34 11
 (ckA 1 h46 (a34 + 3) 0
 (chk (hI h46 a34 3) (alen h46 (a34 + 3))
 (nm (tI h46 (a34 + 3) ((hI h46 a34 3)).toNatClampNeg (hI h46 a34 5)) fun h52 =>
 (ckO 1 h52 a34 11
 (ckO 1 h52 a34 11
 (nm (sI h52 a34 3 ((hI h52 a34 3) + (1 : Int32))) fun h55 =>
 (some (h55, (1 : Int32))))))))))))))))))))))
def f_X9_clause_108 (h : hp) : Option (hp × Int32) := (some (h, (0 : Int32)))
def f_X9_clause_71 (h : hp) (a27 : Nat) (a28 : Int32) (a29 : Int32) : Option (hp × Int32) := (if a29 < 0 then
 (some (h, (0 : Int32)))
 else
 (if a28 = (3 : Int32) then
 (ckO 1 h a27 11
 (nm (sI h a27 6 a29) fun h33 =>
 (f_X9_clause_110 h33 a27 a28 a29)))
 else
 (ckO 1 h a27 11
 (bnd (f_X9_accept h a27 (32 : Int32)) fun h57 r58 =>
 (if r58 = 0 then
 (f_X9_clause_108 h57)
 else
 (ckO 1 h57 a27 11
 (bnd (f_X9_either (f_X9_single 6) h57 a27 (0 : Int32)) fun h62 r63 =>
 (if r63 = 0 then
 (f_X9_clause_108 h62)
 else
 (f_X9_clause_110 h62 a27 a28 a29)))))))))
def f_X9_clause_24 : Nat → hp → Nat → Int32 → Int32 → Option (hp × Int32)
  | 0, _, _, _, _ => none
  | n + 1, h, a8, a9, a10 => (if a10 < (4 : Int32) then
 (ckT 1
 (bnd (f_J0_charAt_5068e h 1 ((a9 * (4 : Int32)) + a10)) fun h13 r14 =>
 (ckO 1 h13 a8 11
 (bnd (f_X9_accept h13 a8 r14) fun h17 r18 =>
 (if r18 = 0 then
 (some (h17, (0 : Int32)))
 else
 (nm (a10 + (1 : Int32)) fun v21 =>
 ((f_X9_clause_24 n) h17 a8 a9 v21)))))))
 else
 (ckO 1 h a8 11
 (bnd (f_X9_accept h a8 (32 : Int32)) fun h23 r24 =>
 (if r24 = 0 then
 (f_X9_clause_71 h23 a8 a9 (-1 : Int32))
 else
 (ckO 1 h23 a8 11
 (bnd (f_X9_number h23 a8) fun h67 r68 =>
 (f_X9_clause_71 h67 a8 a9 r68)))))))
def f_X9_clause (h : hp) (o : Nat) : Option (hp × Int32) := (ckO 1 h o 11
 (bnd (f_X9_acceptOneOf h o 0) fun h2 r3 =>
 (if r3 < 0 then
 (f_X9_clause_20 h2)
 else
 (ckO 1 h2 o 11
 (if (hI h2 o 3) < (10 : Int32) then
 (f_X9_clause_24 2000 h2 o r3 (1 : Int32))
 else
 (f_X9_clause_20 h2))))))
set_option maxRecDepth 100000 in
set_option maxHeartbeats 4000000 in
theorem k_X9_clause_20 {ω : XO} (hω : ω.2.2.2.1 = 1) {κ : XK} (X : XC ω rm_X9_clause 3 κ cX9_clause "SignalBlind$Ward") {L : List Nat} {q : Nat → Nat} {h' : hp} {r : Int32} (R : XRet ω rm_X9_clause κ (some .boolean) L q h' (some (.int r))) : ∀ (h : hp), f_X9_clause_20 h = some (h', r) → XG ω rm_X9_clause 3 κ L q h 0 0 20 [] [] := by
  intro h hf
  unfold f_X9_clause_20 at hf
  refine x_iconst X (v := 0) dX9_clause_20 (by decide) ?_
  exact x_retSZ X R (by decide) hf dX9_clause_21
set_option maxRecDepth 100000 in
set_option maxHeartbeats 4000000 in
theorem k_X9_clause_110 {ω : XO} (hω : ω.2.2.2.1 = 1) {κ : XK} (X : XC ω rm_X9_clause 3 κ cX9_clause "SignalBlind$Ward") {L : List Nat} {q : Nat → Nat} {h' : hp} {r : Int32} (R : XRet ω rm_X9_clause κ (some .boolean) L q h' (some (.int r))) : ∀ (h : hp) (a34 : Nat) (a35 : Int32) (a36 : Int32), f_X9_clause_110 h a34 a35 a36 = some (h', r) → XG ω rm_X9_clause 3 κ L q h 0 0 110 [(0, .ref (q a34)), (1, .int a35), (2, .int a36)] [] := by
  intro h a34 a35 a36 hf
  unfold f_X9_clause_110 at hf
  refine x_aload_n X dX9_clause_110 0 rfl rfl ?_
  obtain ⟨b37, hf⟩ := ckO_some hf
  refine x_getsj X (i := a34) 1 fl_X9_11_10 (sd_of hω b37.1) b37.2 rfl (j := (a34 + 1)) rfl dX9_clause_111 ?_
  refine x_aload_n X dX9_clause_114 0 rfl rfl ?_
  obtain ⟨b38, hf⟩ := ckO_some hf
  refine x_geti X (i := a34) fl_X9_21_10 (sd_of hω b38.1) b38.2 rfl dX9_clause_115 ?_
  refine x_iload_n X dX9_clause_118 1 rfl rfl ?_
  obtain ⟨b39, hf⟩ := ckA_some hf
  obtain ⟨z40, hf⟩ := chk_some hf
  refine x_iast X (i := (a34 + 1)) (n := (alen h (a34 + 1))) (sd_of hω b39.1) b39.2 z40 dX9_clause_119 ?_
  obtain ⟨h41, eh41, hf⟩ := nm_some hf
  refine x_nmh eh41 ?_
  refine x_aload_n X dX9_clause_120 0 rfl rfl ?_
  obtain ⟨b42, hf⟩ := ckO_some hf
  refine x_getsj X (i := a34) 2 fl_X9_15_10 (sd_of hω b42.1) b42.2 rfl (j := (a34 + 2)) rfl dX9_clause_121 ?_
  refine x_aload_n X dX9_clause_124 0 rfl rfl ?_
  obtain ⟨b43, hf⟩ := ckO_some hf
  refine x_geti X (i := a34) fl_X9_21_10 (sd_of hω b43.1) b43.2 rfl dX9_clause_125 ?_
  refine x_iload_n X dX9_clause_128 2 rfl rfl ?_
  obtain ⟨b44, hf⟩ := ckA_some hf
  obtain ⟨z45, hf⟩ := chk_some hf
  refine x_iast X (i := (a34 + 2)) (n := (alen h41 (a34 + 2))) (sd_of hω b44.1) b44.2 z45 dX9_clause_129 ?_
  obtain ⟨h46, eh46, hf⟩ := nm_some hf
  refine x_nmh eh46 ?_
  refine x_aload_n X dX9_clause_130 0 rfl rfl ?_
  obtain ⟨b47, hf⟩ := ckO_some hf
  refine x_getsj X (i := a34) 3 fl_X9_18_10 (sd_of hω b47.1) b47.2 rfl (j := (a34 + 3)) rfl dX9_clause_131 ?_
  refine x_aload_n X dX9_clause_134 0 rfl rfl ?_
  obtain ⟨b48, hf⟩ := ckO_some hf
  refine x_geti X (i := a34) fl_X9_21_10 (sd_of hω b48.1) b48.2 rfl dX9_clause_135 ?_
  refine x_aload_n X dX9_clause_138 0 rfl rfl ?_
  obtain ⟨b49, hf⟩ := ckO_some hf
  refine x_geti X (i := a34) fl_X9_28_10 (sd_of hω b49.1) b49.2 rfl dX9_clause_139 ?_
  obtain ⟨b50, hf⟩ := ckA_some hf
  obtain ⟨z51, hf⟩ := chk_some hf
  refine x_iast X (i := (a34 + 3)) (n := (alen h46 (a34 + 3))) (sd_of hω b50.1) b50.2 z51 dX9_clause_142 ?_
  obtain ⟨h52, eh52, hf⟩ := nm_some hf
  refine x_nmh eh52 ?_
  refine x_aload_n X dX9_clause_143 0 rfl rfl ?_
  refine x_dup X dX9_clause_144 rfl ?_
  obtain ⟨b53, hf⟩ := ckO_some hf
  refine x_geti X (i := a34) fl_X9_21_10 (sd_of hω b53.1) b53.2 rfl dX9_clause_145 ?_
  refine x_iconst X (v := 1) dX9_clause_148 (by decide) ?_
  refine x_iadd X dX9_clause_149 ?_
  obtain ⟨b54, hf⟩ := ckO_some hf
  refine x_puti X (i := a34) fl_X9_21_10 fw_10 (sd_of hω b54.1) b54.2 rfl rfl rfl rfl dX9_clause_150 ?_
  obtain ⟨h55, eh55, hf⟩ := nm_some hf
  refine x_nmh eh55 ?_
  refine x_iconst X (v := 1) dX9_clause_153 (by decide) ?_
  exact x_retSZ X R (by decide) hf dX9_clause_154
set_option maxRecDepth 100000 in
set_option maxHeartbeats 4000000 in
theorem k_X9_clause_108 {ω : XO} (hω : ω.2.2.2.1 = 1) {κ : XK} (X : XC ω rm_X9_clause 3 κ cX9_clause "SignalBlind$Ward") {L : List Nat} {q : Nat → Nat} {h' : hp} {r : Int32} (R : XRet ω rm_X9_clause κ (some .boolean) L q h' (some (.int r))) : ∀ (h : hp), f_X9_clause_108 h = some (h', r) → XG ω rm_X9_clause 3 κ L q h 0 0 108 [] [] := by
  intro h hf
  unfold f_X9_clause_108 at hf
  refine x_iconst X (v := 0) dX9_clause_108 (by decide) ?_
  exact x_retSZ X R (by decide) hf dX9_clause_109
set_option maxRecDepth 100000 in
set_option maxHeartbeats 4000000 in
theorem k_X9_clause_71 {ω : XO} (hω : ω.2.2.2.1 = 1) {κ : XK} (X : XC ω rm_X9_clause 3 κ cX9_clause "SignalBlind$Ward") {L : List Nat} {q : Nat → Nat} {h' : hp} {r : Int32} (R : XRet ω rm_X9_clause κ (some .boolean) L q h' (some (.int r))) : ∀ (h : hp) (a27 : Nat) (a28 : Int32) (a29 : Int32), f_X9_clause_71 h a27 a28 a29 = some (h', r) → XG ω rm_X9_clause 3 κ L q h 0 0 71 [(0, .ref (q a27)), (1, .int a28)] [.int a29] := by
  intro h a27 a28 a29 hf
  unfold f_X9_clause_71 at hf
  refine x_istore_n X [(2, .int a29), (0, .ref (q a27)), (1, .int a28)] dX9_clause_71 rfl (Nat.le_of_ble_eq_true rfl) rfl ?_
  refine x_iload_n X dX9_clause_72 0 rfl rfl ?_
  refine x_if_ge X 78 dX9_clause_73 (by decide) (fun c30 => ?_) (fun c30 => ?_)
  · replace hf := (if_pos c30).symm.trans hf
    refine x_iconst X (v := 0) dX9_clause_76 (by decide) ?_
    exact x_retSZ X R (by decide) hf dX9_clause_77
  · replace hf := (if_neg c30).symm.trans hf
    refine x_iload_n X dX9_clause_78 2 rfl rfl ?_
    refine x_iconst X (v := 3) dX9_clause_79 (by decide) ?_
    refine x_icmp_ne X 91 dX9_clause_80 (by decide) (fun c31 => ?_) (fun c31 => ?_)
    · replace hf := (if_pos c31).symm.trans hf
      refine x_aload_n X dX9_clause_83 1 rfl rfl ?_
      refine x_iload_n X dX9_clause_84 0 rfl rfl ?_
      obtain ⟨b32, hf⟩ := ckO_some hf
      refine x_puti X (i := a27) fl_X9_31_10 fw_10 (sd_of hω b32.1) b32.2 rfl rfl rfl rfl dX9_clause_85 ?_
      obtain ⟨h33, eh33, hf⟩ := nm_some hf
      refine x_nmh eh33 ?_
      refine x_goto X 110 dX9_clause_88 (by decide) ?_
      refine x_lv [1, 2, 0] rfl ?_
      exact k_X9_clause_110 hω X R h33 _ _ _ hf
    · replace hf := (if_neg c31).symm.trans hf
      refine x_aload_n X dX9_clause_91 1 rfl rfl ?_
      refine x_bipush X (v := 32) dX9_clause_92 (by decide) ?_
      obtain ⟨b56, hf⟩ := ckO_some hf
      obtain ⟨h57, r58, g59, hf⟩ := bnd_some hf
      refine c_X9_45 X hω g59 (sd_of hω b56.1) b56.2 (hR := ⟨Nat.le_of_ble_eq_true rfl, Nat.le_of_ble_eq_true rfl⟩) ⟨Nat.zero_le _, Nat.zero_le _⟩ (Nat.le_of_ble_eq_true rfl) dX9_clause_94 ?_
      refine x_if_eq X 108 dX9_clause_97 (by decide) (fun c60 => ?_) (fun c60 => ?_)
      · replace hf := (if_pos c60).symm.trans hf
        refine x_lv [] rfl ?_
        exact k_X9_clause_108 hω X R h57 hf
      · replace hf := (if_neg c60).symm.trans hf
        refine x_aload_n X dX9_clause_100 1 rfl rfl ?_
        refine x_iconst X (v := 0) dX9_clause_101 (by decide) ?_
        obtain ⟨b61, hf⟩ := ckO_some hf
        obtain ⟨h62, r63, g64, hf⟩ := bnd_some hf
        refine cR_X9_72 X hω (k_X9_either hω (Nat.le_of_ble_eq_true rfl) (Nat.le_of_ble_eq_true rfl) (fun _ _ _ _ _ => k_X9_single hω 6) g64) (sd_of hω b61.1) b61.2 (hR := ⟨Nat.le_of_ble_eq_true rfl, Nat.le_of_ble_eq_true rfl⟩) ⟨rfl, rfl⟩ ⟨Nat.zero_le _, Nat.zero_le _⟩ (Nat.le_of_ble_eq_true rfl) dX9_clause_102 ?_
        refine x_if_ne X 110 dX9_clause_105 (by decide) (fun c65 => ?_) (fun c65 => ?_)
        · replace hf := (if_pos c65).symm.trans hf
          refine x_lv [] rfl ?_
          exact k_X9_clause_108 hω X R h62 hf
        · replace hf := (if_neg c65).symm.trans hf
          refine x_lv [1, 2, 0] rfl ?_
          exact k_X9_clause_110 hω X R h62 _ _ _ hf
set_option maxRecDepth 100000 in
set_option maxHeartbeats 4000000 in
theorem k_X9_clause_24 {ω : XO} (hω : ω.2.2.2.1 = 1) {κ : XK} (X : XC ω rm_X9_clause 3 κ cX9_clause "SignalBlind$Ward") {L : List Nat} {q : Nat → Nat} {h' : hp} {r : Int32} (R : XRet ω rm_X9_clause κ (some .boolean) L q h' (some (.int r))) : ∀ (n : Nat) (h : hp) (a8 : Nat) (a9 : Int32) (a10 : Int32), f_X9_clause_24 n h a8 a9 a10 = some (h', r) → XG ω rm_X9_clause 3 κ L q h 0 0 24 [(0, .ref (q a8)), (1, .int a9), (2, .int a10)] [] := by
  intro n
  induction n with
  | zero =>
    intro h a8 a9 a10 hf
    have hf : (none : Option (hp × Int32)) = some (h', r) := hf
    cases hf
  | succ n ih =>
    intro h a8 a9 a10 hf
    rw [f_X9_clause_24] at hf
    refine x_iload_n X dX9_clause_24 2 rfl rfl ?_
    refine x_iconst X (v := 4) dX9_clause_25 (by decide) ?_
    refine x_icmp_ge X 54 dX9_clause_26 (by decide) (fun c11 => ?_) (fun c11 => ?_)
    · replace hf := (if_pos c11).symm.trans hf
      refine x_aload_n X dX9_clause_29 0 rfl rfl ?_
      refine x_ldcS X 1 rfl dX9_clause_30 ?_
      refine x_iload_n X dX9_clause_32 1 rfl rfl ?_
      refine x_iconst X (v := 4) dX9_clause_33 (by decide) ?_
      refine x_imul X dX9_clause_34 ?_
      refine x_iload_n X dX9_clause_35 2 rfl rfl ?_
      refine x_iadd X dX9_clause_36 ?_
      obtain ⟨b12, hf⟩ := ckT_some hf
      obtain ⟨h13, r14, g15, hf⟩ := bnd_some hf
      refine c_X9_62 X hω g15 b12 (hR := ⟨Nat.le_of_ble_eq_true rfl, Nat.le_of_ble_eq_true rfl⟩) ⟨Nat.zero_le _, Nat.zero_le _⟩ (Nat.le_of_ble_eq_true rfl) dX9_clause_37 ?_
      obtain ⟨b16, hf⟩ := ckO_some hf
      obtain ⟨h17, r18, g19, hf⟩ := bnd_some hf
      refine c_X9_45 X hω g19 (sd_of hω b16.1) b16.2 (hR := ⟨Nat.le_of_ble_eq_true rfl, Nat.le_of_ble_eq_true rfl⟩) ⟨Nat.zero_le _, Nat.zero_le _⟩ (Nat.le_of_ble_eq_true rfl) dX9_clause_40 ?_
      refine x_if_ne X 48 dX9_clause_43 (by decide) (fun c20 => ?_) (fun c20 => ?_)
      · replace hf := (if_pos c20).symm.trans hf
        refine x_iconst X (v := 0) dX9_clause_46 (by decide) ?_
        exact x_retSZ X R (by decide) hf dX9_clause_47
      · replace hf := (if_neg c20).symm.trans hf
        obtain ⟨v21, ev21, hf⟩ := nm_some hf
        refine x_iincN X (v := 1) ev21 [(2, .int v21), (0, .ref (q a8)), (1, .int a9)] dX9_clause_48 2 rfl (by decide) (Nat.le_of_ble_eq_true rfl) rfl ?_
        refine x_goto X 24 dX9_clause_51 (by decide) ?_
        refine x_lv [1, 2, 0] rfl ?_
        exact ih h17 _ _ _ hf
    · replace hf := (if_neg c11).symm.trans hf
      refine x_aload_n X dX9_clause_54 0 rfl rfl ?_
      refine x_bipush X (v := 32) dX9_clause_55 (by decide) ?_
      obtain ⟨b22, hf⟩ := ckO_some hf
      obtain ⟨h23, r24, g25, hf⟩ := bnd_some hf
      refine c_X9_45 X hω g25 (sd_of hω b22.1) b22.2 (hR := ⟨Nat.le_of_ble_eq_true rfl, Nat.le_of_ble_eq_true rfl⟩) ⟨Nat.zero_le _, Nat.zero_le _⟩ (Nat.le_of_ble_eq_true rfl) dX9_clause_57 ?_
      refine x_if_eq X 70 dX9_clause_60 (by decide) (fun c26 => ?_) (fun c26 => ?_)
      · replace hf := (if_pos c26).symm.trans hf
        refine x_iconst X (v := -1) dX9_clause_70 (by decide) ?_
        refine x_lv [0, 1] rfl ?_
        exact k_X9_clause_71 hω X R h23 _ _ _ hf
      · replace hf := (if_neg c26).symm.trans hf
        refine x_aload_n X dX9_clause_63 0 rfl rfl ?_
        obtain ⟨b66, hf⟩ := ckO_some hf
        obtain ⟨h67, r68, g69, hf⟩ := bnd_some hf
        refine c_X9_68 X hω g69 (sd_of hω b66.1) b66.2 (hR := ⟨Nat.le_of_ble_eq_true rfl, Nat.le_of_ble_eq_true rfl⟩) ⟨Nat.zero_le _, Nat.zero_le _⟩ (Nat.le_of_ble_eq_true rfl) dX9_clause_64 ?_
        refine x_goto X 71 dX9_clause_67 (by decide) ?_
        refine x_lv [0, 1] rfl ?_
        exact k_X9_clause_71 hω X R h67 _ _ _ hf
set_option maxRecDepth 100000 in
set_option maxHeartbeats 4000000 in
theorem k_X9_clause {ω : XO} (hω : ω.2.2.2.1 = 1) {L : List Nat} {q : Nat → Nat} {h h' : hp} {o : Nat} {r : Int32} (hf : f_X9_clause h o = some (h', r)) : XM ω yX9_clause cX9_clause 3 (some .boolean) rm_X9_clause L q h [.ref (q o)] (some (.int r)) h' := by
  refine XM_intro [(0, .ref (q o))] "SignalBlind$Ward" (by decide) rfl rfl (Nat.le_of_ble_eq_true rfl) (fun κ X R => ?_)
  unfold f_X9_clause at hf
  refine x_aload_n X dX9_clause_0 0 rfl rfl ?_
  refine x_ldcS X 0 rfl dX9_clause_1 ?_
  obtain ⟨b1, hf⟩ := ckO_some hf
  obtain ⟨h2, r3, g4, hf⟩ := bnd_some hf
  refine c_X9_56 X hω g4 (sd_of hω b1.1) b1.2 (hR := ⟨Nat.le_of_ble_eq_true rfl, Nat.le_of_ble_eq_true rfl⟩) ⟨Nat.zero_le _, Nat.zero_le _⟩ (Nat.le_of_ble_eq_true rfl) dX9_clause_3 ?_
  refine x_istore_n X [(1, .int r3), (0, .ref (q o))] dX9_clause_6 rfl (Nat.le_of_ble_eq_true rfl) rfl ?_
  refine x_iload_n X dX9_clause_7 0 rfl rfl ?_
  refine x_if_lt X 20 dX9_clause_8 (by decide) (fun c5 => ?_) (fun c5 => ?_)
  · replace hf := (if_pos c5).symm.trans hf
    refine x_lv [] rfl ?_
    exact k_X9_clause_20 hω X R h2 hf
  · replace hf := (if_neg c5).symm.trans hf
    refine x_aload_n X dX9_clause_11 1 rfl rfl ?_
    obtain ⟨b6, hf⟩ := ckO_some hf
    refine x_geti X (i := o) fl_X9_21_10 (sd_of hω b6.1) b6.2 rfl dX9_clause_12 ?_
    refine x_bipush X (v := 10) dX9_clause_15 (by decide) ?_
    refine x_icmp_lt X 22 dX9_clause_17 (by decide) (fun c7 => ?_) (fun c7 => ?_)
    · replace hf := (if_pos c7).symm.trans hf
      refine x_iconst X (v := 1) dX9_clause_22 (by decide) ?_
      refine x_istore_n X [(2, .int (1 : Int32)), (1, .int r3), (0, .ref (q o))] dX9_clause_23 rfl (Nat.le_of_ble_eq_true rfl) rfl ?_
      refine x_lv [2, 1, 0] rfl ?_
      exact k_X9_clause_24 hω X R _ h2 _ _ _ hf
    · replace hf := (if_neg c7).symm.trans hf
      refine x_lv [] rfl ?_
      exact k_X9_clause_20 hω X R h2 hf
theorem mt_X9_clause : MT yX9_clause cX9_clause 3 (some .boolean) "SignalBlind$Ward" 0 := ⟨(mT_3 2 rfl rfl), (mTp (q := (yX9_clause, 9)) (by decide +kernel) rfl), (mT_1 4 rfl rfl), (mT_3 3 rfl rfl), by decide⟩
theorem c_X9_41 {ω : XO} {rm : Room} {nL : Nat} {κ : XK} {cc : ByteArray} (X : XC ω rm nL κ cc "SignalBlind$Ward") (hω : ω.2.2.2.1 = 1) {L : List Nat} {q : Nat → Nat} {h h' : hp} {cells slots pc : Nat} {lv : List (Nat × Value)} {rest : List Value} {o : Nat} {r : Int32} (hf : f_X9_clause h o = some (h', r)) (hs : sd ω.2.2.2.1 o = true) (hk : kdOf h o = 10 + 1) (hR : rm_X9_clause.frames + 1 ≤ rm.frames ∧ 8 + (3 + 11) + rm_X9_clause.locals ≤ rm.locals) (hcs : cells ≤ rm.cells ∧ slots ≤ rm.slots) (hroom : (rest.map fun v => v.category).sum ≤ 8) (hd : decode cc pc = .ok (.invokevirtual 41, 3)) (kk : XG ω rm nL κ L q h' cells slots (pc + 3) lv (.int r :: rest)) : XG ω rm nL κ L q h cells slots pc lv (.ref (q o) :: rest) := x_callV X [] rest (k_X9_clause hω hf) mt_X9_clause (mT_3 0 rfl rfl) hR ⟨rfl, rfl⟩ hcs hs hk (by decide) rfl rfl hroom hd kk

abbrev rm_X9_parse : Room := { frames := 28, cells := 0, slots := 0, locals := 712 }
def f_X9_parse_88 (h : hp) (a26 : Int32) : Option (hp × Int32) := (some (h, a26))
def f_X9_parse_84 (h : hp) (a24 : Nat) : Option (hp × Int32) := (ckO 1 h a24 11
 (f_X9_parse_88 h (hI h a24 8)))
def f_X9_parse_62 (h : hp) (a21 : Nat) (a22 : Int32) : Option (hp × Int32) := (if a22 = 0 then
 (f_X9_parse_84 h a21)
 else
 (ckO 1 h a21 11
 (ckO 1 h a21 11
 (onO (hR h a21 7) none fun i29 =>
 (ckO 1 h i29 4
 (if (hI h a21 8) < (hI h i29 1) then
 (f_X9_parse_84 h a21)
 else
 (f_X9_parse_88 h (-1 : Int32))))))))
def f_X9_parse_32 : Nat → hp → Nat → Int32 → Int32 → Option (hp × Int32)
  | 0, _, _, _, _ => none
  | n + 1, h, a16, a17, a18 => (if a18 < (10 : Int32) then
 (if a17 = 0 then
 (f_X9_parse_62 h a16 a17)
 else
 (ckO 1 h a16 11
 (bnd (f_X9_accept h a16 (59 : Int32)) fun h33 r34 =>
 (if r34 = 0 then
 (f_X9_parse_62 h33 a16 a17)
 else
 (ckO 1 h33 a16 11
 (bnd (f_X9_clause h33 a16) fun h38 r39 =>
 (nm (a18 + (1 : Int32)) fun v41 =>
 ((f_X9_parse_32 n) h38 a16 r39 v41))))))))
 else
 (f_X9_parse_62 h a16 a17))
def f_X9_parse (h : hp) (o : Nat) (p0 : Nat) : Option (hp × Int32) := (ckO 1 h o 11
 (ckV h (some p0)
 (nm (sR h o 7 (some p0)) fun h3 =>
 (ckO 1 h3 o 11
 (nm (sI h3 o 8 (0 : Int32)) fun h5 =>
 (ckO 1 h5 o 11
 (nm (sI h5 o 3 (0 : Int32)) fun h7 =>
 (ckO 1 h7 o 11
 (nm (sI h7 o 5 (0 : Int32)) fun h9 =>
 (ckO 1 h9 o 11
 (nm (sI h9 o 6 (2 : Int32)) fun h11 =>
 (ckO 1 h11 o 11
 (bnd (f_X9_clause h11 o) fun h13 r14 =>
 (f_X9_parse_32 2000 h13 o r14 (1 : Int32)))))))))))))))
set_option maxRecDepth 100000 in
set_option maxHeartbeats 4000000 in
theorem k_X9_parse_88 {ω : XO} (hω : ω.2.2.2.1 = 1) {κ : XK} (X : XC ω rm_X9_parse 4 κ cX9_parse "SignalBlind$Ward") {L : List Nat} {q : Nat → Nat} {h' : hp} {r : Int32} (R : XRet ω rm_X9_parse κ (some .int) L q h' (some (.int r))) : ∀ (h : hp) (a26 : Int32), f_X9_parse_88 h a26 = some (h', r) → XG ω rm_X9_parse 4 κ L q h 0 0 88 [] [.int a26] := by
  intro h a26 hf
  unfold f_X9_parse_88 at hf
  exact x_retSI X R hf dX9_parse_88
set_option maxRecDepth 100000 in
set_option maxHeartbeats 4000000 in
theorem k_X9_parse_84 {ω : XO} (hω : ω.2.2.2.1 = 1) {κ : XK} (X : XC ω rm_X9_parse 4 κ cX9_parse "SignalBlind$Ward") {L : List Nat} {q : Nat → Nat} {h' : hp} {r : Int32} (R : XRet ω rm_X9_parse κ (some .int) L q h' (some (.int r))) : ∀ (h : hp) (a24 : Nat), f_X9_parse_84 h a24 = some (h', r) → XG ω rm_X9_parse 4 κ L q h 0 0 84 [(0, .ref (q a24))] [] := by
  intro h a24 hf
  unfold f_X9_parse_84 at hf
  refine x_aload_n X dX9_parse_84 0 rfl rfl ?_
  obtain ⟨b25, hf⟩ := ckO_some hf
  refine x_geti X (i := a24) fl_X9_38_10 (sd_of hω b25.1) b25.2 rfl dX9_parse_85 ?_
  refine x_lv [] rfl ?_
  exact k_X9_parse_88 hω X R h _ hf
set_option maxRecDepth 100000 in
set_option maxHeartbeats 4000000 in
theorem k_X9_parse_62 {ω : XO} (hω : ω.2.2.2.1 = 1) {κ : XK} (X : XC ω rm_X9_parse 4 κ cX9_parse "SignalBlind$Ward") {L : List Nat} {q : Nat → Nat} {h' : hp} {r : Int32} (R : XRet ω rm_X9_parse κ (some .int) L q h' (some (.int r))) : ∀ (h : hp) (a21 : Nat) (a22 : Int32), f_X9_parse_62 h a21 a22 = some (h', r) → XG ω rm_X9_parse 4 κ L q h 0 0 62 [(0, .ref (q a21)), (2, .int a22)] [] := by
  intro h a21 a22 hf
  unfold f_X9_parse_62 at hf
  refine x_iload_n X dX9_parse_62 1 rfl rfl ?_
  refine x_if_eq X 84 dX9_parse_63 (by decide) (fun c23 => ?_) (fun c23 => ?_)
  · replace hf := (if_pos c23).symm.trans hf
    refine x_lv [0] rfl ?_
    exact k_X9_parse_84 hω X R h _ hf
  · replace hf := (if_neg c23).symm.trans hf
    refine x_aload_n X dX9_parse_66 0 rfl rfl ?_
    obtain ⟨b27, hf⟩ := ckO_some hf
    refine x_geti X (i := a21) fl_X9_38_10 (sd_of hω b27.1) b27.2 rfl dX9_parse_67 ?_
    refine x_aload_n X dX9_parse_70 0 rfl rfl ?_
    obtain ⟨b28, hf⟩ := ckO_some hf
    refine x_getr X (i := a21) fl_X9_34_10 (sd_of hω b28.1) b28.2 rfl dX9_parse_71 ?_
    obtain ⟨i29, ei29, hf⟩ := onO_some hf
    refine x_nn ei29 ?_
    obtain ⟨b30, hf⟩ := ckO_some hf
    refine x_geti X (i := i29) fl_X9_49_3 (sd_of hω b30.1) b30.2 rfl dX9_parse_74 ?_
    refine x_icmp_lt X 84 dX9_parse_77 (by decide) (fun c31 => ?_) (fun c31 => ?_)
    · replace hf := (if_pos c31).symm.trans hf
      refine x_lv [0] rfl ?_
      exact k_X9_parse_84 hω X R h _ hf
    · replace hf := (if_neg c31).symm.trans hf
      refine x_iconst X (v := -1) dX9_parse_80 (by decide) ?_
      refine x_goto X 88 dX9_parse_81 (by decide) ?_
      refine x_lv [] rfl ?_
      exact k_X9_parse_88 hω X R h _ hf
set_option maxRecDepth 100000 in
set_option maxHeartbeats 4000000 in
theorem k_X9_parse_32 {ω : XO} (hω : ω.2.2.2.1 = 1) {κ : XK} (X : XC ω rm_X9_parse 4 κ cX9_parse "SignalBlind$Ward") {L : List Nat} {q : Nat → Nat} {h' : hp} {r : Int32} (R : XRet ω rm_X9_parse κ (some .int) L q h' (some (.int r))) : ∀ (n : Nat) (h : hp) (a16 : Nat) (a17 : Int32) (a18 : Int32), f_X9_parse_32 n h a16 a17 a18 = some (h', r) → XG ω rm_X9_parse 4 κ L q h 0 0 32 [(0, .ref (q a16)), (2, .int a17), (3, .int a18)] [] := by
  intro n
  induction n with
  | zero =>
    intro h a16 a17 a18 hf
    have hf : (none : Option (hp × Int32)) = some (h', r) := hf
    cases hf
  | succ n ih =>
    intro h a16 a17 a18 hf
    rw [f_X9_parse_32] at hf
    refine x_iload_n X dX9_parse_32 2 rfl rfl ?_
    refine x_bipush X (v := 10) dX9_parse_33 (by decide) ?_
    refine x_icmp_ge X 62 dX9_parse_35 (by decide) (fun c19 => ?_) (fun c19 => ?_)
    · replace hf := (if_pos c19).symm.trans hf
      refine x_iload_n X dX9_parse_38 1 rfl rfl ?_
      refine x_if_eq X 62 dX9_parse_39 (by decide) (fun c20 => ?_) (fun c20 => ?_)
      · replace hf := (if_pos c20).symm.trans hf
        refine x_lv [0, 1] rfl ?_
        exact k_X9_parse_62 hω X R h _ _ hf
      · replace hf := (if_neg c20).symm.trans hf
        refine x_aload_n X dX9_parse_42 0 rfl rfl ?_
        refine x_bipush X (v := 59) dX9_parse_43 (by decide) ?_
        obtain ⟨b32, hf⟩ := ckO_some hf
        obtain ⟨h33, r34, g35, hf⟩ := bnd_some hf
        refine c_X9_45 X hω g35 (sd_of hω b32.1) b32.2 (hR := ⟨Nat.le_of_ble_eq_true rfl, Nat.le_of_ble_eq_true rfl⟩) ⟨Nat.zero_le _, Nat.zero_le _⟩ (Nat.le_of_ble_eq_true rfl) dX9_parse_45 ?_
        refine x_if_eq X 62 dX9_parse_48 (by decide) (fun c36 => ?_) (fun c36 => ?_)
        · replace hf := (if_pos c36).symm.trans hf
          refine x_lv [0, 1] rfl ?_
          exact k_X9_parse_62 hω X R h33 _ _ hf
        · replace hf := (if_neg c36).symm.trans hf
          refine x_aload_n X dX9_parse_51 0 rfl rfl ?_
          obtain ⟨b37, hf⟩ := ckO_some hf
          obtain ⟨h38, r39, g40, hf⟩ := bnd_some hf
          refine c_X9_41 X hω g40 (sd_of hω b37.1) b37.2 (hR := ⟨Nat.le_of_ble_eq_true rfl, Nat.le_of_ble_eq_true rfl⟩) ⟨Nat.zero_le _, Nat.zero_le _⟩ (Nat.le_of_ble_eq_true rfl) dX9_parse_52 ?_
          refine x_istore_n X [(2, .int r39), (0, .ref (q a16)), (3, .int a18)] dX9_parse_55 rfl (Nat.le_of_ble_eq_true rfl) rfl ?_
          obtain ⟨v41, ev41, hf⟩ := nm_some hf
          refine x_iincN X (v := 1) ev41 [(3, .int v41), (2, .int r39), (0, .ref (q a16))] dX9_parse_56 2 rfl (by decide) (Nat.le_of_ble_eq_true rfl) rfl ?_
          refine x_goto X 32 dX9_parse_59 (by decide) ?_
          refine x_lv [2, 1, 0] rfl ?_
          exact ih h38 _ _ _ hf
    · replace hf := (if_neg c19).symm.trans hf
      refine x_lv [0, 1] rfl ?_
      exact k_X9_parse_62 hω X R h _ _ hf
set_option maxRecDepth 100000 in
set_option maxHeartbeats 4000000 in
theorem k_X9_parse {ω : XO} (hω : ω.2.2.2.1 = 1) {L : List Nat} {q : Nat → Nat} {h h' : hp} {o : Nat} {p0 : Nat} {r : Int32} (hf : f_X9_parse h o p0 = some (h', r)) : XM ω yX9_parse cX9_parse 4 (some .int) rm_X9_parse L q h [.ref (q o), .ref (q p0)] (some (.int r)) h' := by
  refine XM_intro [(0, .ref (q o)), (1, .ref (q p0))] "SignalBlind$Ward" (by decide) rfl rfl (Nat.le_of_ble_eq_true rfl) (fun κ X R => ?_)
  unfold f_X9_parse at hf
  refine x_aload_n X dX9_parse_0 0 rfl rfl ?_
  refine x_aload_n X dX9_parse_1 1 rfl rfl ?_
  obtain ⟨b1, hf⟩ := ckO_some hf
  obtain ⟨b2, hf⟩ := ckV_some hf
  refine x_putr X (i := o) (o := (some p0)) fl_X9_34_10 fw_10 (sd_of hω b1.1) b1.2 rfl rfl (lv_of hω b2) rfl rfl rfl dX9_parse_2 ?_
  obtain ⟨h3, eh3, hf⟩ := nm_some hf
  refine x_nmh eh3 ?_
  refine x_aload_n X dX9_parse_5 0 rfl rfl ?_
  refine x_iconst X (v := 0) dX9_parse_6 (by decide) ?_
  obtain ⟨b4, hf⟩ := ckO_some hf
  refine x_puti X (i := o) fl_X9_38_10 fw_10 (sd_of hω b4.1) b4.2 rfl rfl rfl rfl dX9_parse_7 ?_
  obtain ⟨h5, eh5, hf⟩ := nm_some hf
  refine x_nmh eh5 ?_
  refine x_aload_n X dX9_parse_10 0 rfl rfl ?_
  refine x_iconst X (v := 0) dX9_parse_11 (by decide) ?_
  obtain ⟨b6, hf⟩ := ckO_some hf
  refine x_puti X (i := o) fl_X9_21_10 fw_10 (sd_of hω b6.1) b6.2 rfl rfl rfl rfl dX9_parse_12 ?_
  obtain ⟨h7, eh7, hf⟩ := nm_some hf
  refine x_nmh eh7 ?_
  refine x_aload_n X dX9_parse_15 0 rfl rfl ?_
  refine x_iconst X (v := 0) dX9_parse_16 (by decide) ?_
  obtain ⟨b8, hf⟩ := ckO_some hf
  refine x_puti X (i := o) fl_X9_28_10 fw_10 (sd_of hω b8.1) b8.2 rfl rfl rfl rfl dX9_parse_17 ?_
  obtain ⟨h9, eh9, hf⟩ := nm_some hf
  refine x_nmh eh9 ?_
  refine x_aload_n X dX9_parse_20 0 rfl rfl ?_
  refine x_iconst X (v := 2) dX9_parse_21 (by decide) ?_
  obtain ⟨b10, hf⟩ := ckO_some hf
  refine x_puti X (i := o) fl_X9_31_10 fw_10 (sd_of hω b10.1) b10.2 rfl rfl rfl rfl dX9_parse_22 ?_
  obtain ⟨h11, eh11, hf⟩ := nm_some hf
  refine x_nmh eh11 ?_
  refine x_aload_n X dX9_parse_25 0 rfl rfl ?_
  obtain ⟨b12, hf⟩ := ckO_some hf
  obtain ⟨h13, r14, g15, hf⟩ := bnd_some hf
  refine c_X9_41 X hω g15 (sd_of hω b12.1) b12.2 (hR := ⟨Nat.le_of_ble_eq_true rfl, Nat.le_of_ble_eq_true rfl⟩) ⟨Nat.zero_le _, Nat.zero_le _⟩ (Nat.le_of_ble_eq_true rfl) dX9_parse_26 ?_
  refine x_istore_n X [(2, .int r14), (0, .ref (q o)), (1, .ref (q p0))] dX9_parse_29 rfl (Nat.le_of_ble_eq_true rfl) rfl ?_
  refine x_iconst X (v := 1) dX9_parse_30 (by decide) ?_
  refine x_istore_n X [(3, .int (1 : Int32)), (2, .int r14), (0, .ref (q o)), (1, .ref (q p0))] dX9_parse_31 rfl (Nat.le_of_ble_eq_true rfl) rfl ?_
  refine x_lv [2, 1, 0] rfl ?_
  exact k_X9_parse_32 hω X R _ h13 _ _ _ hf
theorem mt_X9_parse : MT yX9_parse cX9_parse 4 (some .int) "SignalBlind$Ward" 1 := ⟨(mT_2 237 rfl rfl), (mT_2 238 rfl rfl), (mT_1 4 rfl rfl), (mT_2 239 rfl rfl), by decide⟩
theorem c_X11_148 {ω : XO} {rm : Room} {nL : Nat} {κ : XK} {cc : ByteArray} (X : XC ω rm nL κ cc "SignalBlind") (hω : ω.2.2.2.1 = 1) {L : List Nat} {q : Nat → Nat} {h h' : hp} {cells slots pc : Nat} {lv : List (Nat × Value)} {rest : List Value} {o : Nat} {p0 : Nat} {r : Int32} (hf : f_X9_parse h o p0 = some (h', r)) (hs : sd ω.2.2.2.1 o = true) (hk : kdOf h o = 10 + 1) (hR : rm_X9_parse.frames + 1 ≤ rm.frames ∧ 8 + (4 + 11) + rm_X9_parse.locals ≤ rm.locals) (hcs : cells ≤ rm.cells ∧ slots ≤ rm.slots) (hroom : (rest.map fun v => v.category).sum ≤ 8) (hd : decode cc pc = .ok (.invokevirtual 148, 3)) (kk : XG ω rm nL κ L q h' cells slots (pc + 3) lv (.int r :: rest)) : XG ω rm nL κ L q h cells slots pc lv (.ref (q p0) :: .ref (q o) :: rest) := x_callV X [.ref (q p0)] rest (k_X9_parse hω hf) mt_X9_parse (mT_2 236 rfl rfl) hR ⟨rfl, rfl⟩ hcs hs hk (by decide) rfl rfl hroom hd kk
