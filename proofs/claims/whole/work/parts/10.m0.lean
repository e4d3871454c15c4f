abbrev rm_X12_in : Room := { frames := 0, cells := 0, slots := 0, locals := 0 }
def f_X12_in_15 (h : hp) (a2 : Int32) : Option Int32 := (ckZ a2
 (some a2))
def f_X12_in_14 (h : hp) : Option Int32 := (f_X12_in_15 h (0 : Int32))
def f_X12_in (h : hp) (p0 : Int32) (p1 : Int32) (p2 : Int32) : Option Int32 := (if p0 < p1 then
 (f_X12_in_14 h)
 else
 (if p2 < p0 then
 (f_X12_in_14 h)
 else
 (f_X12_in_15 h (1 : Int32))))
set_option maxRecDepth 100000 in
set_option maxHeartbeats 4000000 in
theorem k_X12_in_15 {ω : XO} (hω : ω.2.2.2.1 = 0) {κ : XK} (X : XC ω rm_X12_in 4 κ cX12_in "SignalBlindModel") {L : List Nat} {q : Nat → Nat} {h : hp} {r : Int32} (R : XRet ω rm_X12_in κ (some .boolean) L q h (some (.int r))) : ∀ (a2 : Int32), f_X12_in_15 h a2 = some r → XG ω rm_X12_in 4 κ L q h 0 0 15 [] [.int a2] := by
  intro a2 hf
  unfold f_X12_in_15 at hf
  obtain ⟨z3, hf⟩ := ckZ_some hf
  exact x_retRZ X R z3 hf dX12_in_15
set_option maxRecDepth 100000 in
set_option maxHeartbeats 4000000 in
theorem k_X12_in_14 {ω : XO} (hω : ω.2.2.2.1 = 0) {κ : XK} (X : XC ω rm_X12_in 4 κ cX12_in "SignalBlindModel") {L : List Nat} {q : Nat → Nat} {h : hp} {r : Int32} (R : XRet ω rm_X12_in κ (some .boolean) L q h (some (.int r))) : f_X12_in_14 h = some r → XG ω rm_X12_in 4 κ L q h 0 0 14 [] [] := by
  intro  hf
  unfold f_X12_in_14 at hf
  refine x_iconst X (v := 0) dX12_in_14 (by decide) ?_
  refine x_lv [] rfl ?_
  exact k_X12_in_15 hω X R _ hf
set_option maxRecDepth 100000 in
set_option maxHeartbeats 4000000 in
theorem k_X12_in {ω : XO} (hω : ω.2.2.2.1 = 0) {L : List Nat} {q : Nat → Nat} {h : hp} {p0 : Int32} {p1 : Int32} {p2 : Int32} {r : Int32} (hf : f_X12_in h p0 p1 p2 = some r) : XM ω yX12_in cX12_in 4 (some .boolean) rm_X12_in L q h [.ref (q 52), .int p0, .int p1, .int p2] (some (.int r)) h := by
  refine XM_intro [(0, .ref (q 52)), (1, .int p0), (2, .int p1), (3, .int p2)] "SignalBlindModel" (by decide) rfl rfl (Nat.le_of_ble_eq_true rfl) (fun κ X R => ?_)
  unfold f_X12_in at hf
  refine x_iload_n X dX12_in_0 1 rfl rfl ?_
  refine x_iload_n X dX12_in_1 2 rfl rfl ?_
  refine x_icmp_lt X 14 dX12_in_2 (by decide) (fun c1 => ?_) (fun c1 => ?_)
  · replace hf := (if_pos c1).symm.trans hf
    refine x_lv [] rfl ?_
    exact k_X12_in_14 hω X R  hf
  · replace hf := (if_neg c1).symm.trans hf
    refine x_iload_n X dX12_in_5 1 rfl rfl ?_
    refine x_iload_n X dX12_in_6 3 rfl rfl ?_
    refine x_icmp_gt X 14 dX12_in_7 (by decide) (fun c4 => ?_) (fun c4 => ?_)
    · replace hf := (if_pos c4).symm.trans hf
      refine x_lv [] rfl ?_
      exact k_X12_in_14 hω X R  hf
    · replace hf := (if_neg c4).symm.trans hf
      refine x_iconst X (v := 1) dX12_in_10 (by decide) ?_
      refine x_goto X 15 dX12_in_11 (by decide) ?_
      refine x_lv [] rfl ?_
      exact k_X12_in_15 hω X R _ hf
theorem mt_X12_in : MT yX12_in cX12_in 4 (some .boolean) "SignalBlindModel" 3 := ⟨(mT_5 234 rfl rfl), (mTp (q := (yX12_in, 61)) (by decide +kernel) rfl), (mT_1 10 rfl rfl), (mT_5 235 rfl rfl), by decide⟩
theorem c_X12_201 {ω : XO} {rm : Room} {nL : Nat} {κ : XK} {cc : ByteArray} (X : XC ω rm nL κ cc "SignalBlindModel") (hω : ω.2.2.2.1 = 0) {L : List Nat} {q : Nat → Nat} {h : hp} {cells slots pc : Nat} {lv : List (Nat × Value)} {rest : List Value} {p0 : Int32} {p1 : Int32} {p2 : Int32} {r : Int32} (hf : f_X12_in h p0 p1 p2 = some r) (hR : rm_X12_in.frames + 1 ≤ rm.frames ∧ 8 + (4 + 11) + rm_X12_in.locals ≤ rm.locals) (hcs : cells ≤ rm.cells ∧ slots ≤ rm.slots) (hroom : (rest.map fun v => v.category).sum ≤ 8) (hd : decode cc pc = .ok (.invokevirtual 201, 3)) (kk : XG ω rm nL κ L q h cells slots (pc + 3) lv (.int r :: rest)) : XG ω rm nL κ L q h cells slots pc lv (.int p2 :: .int p1 :: .int p0 :: .ref (q 52) :: rest) := x_callV X [.int p0, .int p1, .int p2] rest (k_X12_in hω hf) mt_X12_in (mT_5 232 rfl rfl) hR ⟨rfl, rfl⟩ hcs (sdM_52 hω) (ks_52 _) (by decide) rfl rfl hroom hd kk

abbrev rm_X12_has : Room := { frames := 0, cells := 0, slots := 0, locals := 0 }
def f_X12_has_14 (h : hp) (a2 : Int32) : Option Int32 := (ckZ a2
 (some a2))
def f_X12_has (h : hp) (p0 : Int32) (p1 : Int32) : Option Int32 := (if ((p0 >>> (p1 &&& 31)) &&& (1 : Int32)) = (1 : Int32) then
 (f_X12_has_14 h (1 : Int32))
 else
 (f_X12_has_14 h (0 : Int32)))
set_option maxRecDepth 100000 in
set_option maxHeartbeats 4000000 in
theorem k_X12_has_14 {ω : XO} (hω : ω.2.2.2.1 = 0) {κ : XK} (X : XC ω rm_X12_has 3 κ cX12_has "SignalBlindModel") {L : List Nat} {q : Nat → Nat} {h : hp} {r : Int32} (R : XRet ω rm_X12_has κ (some .boolean) L q h (some (.int r))) : ∀ (a2 : Int32), f_X12_has_14 h a2 = some r → XG ω rm_X12_has 3 κ L q h 0 0 14 [] [.int a2] := by
  intro a2 hf
  unfold f_X12_has_14 at hf
  obtain ⟨z3, hf⟩ := ckZ_some hf
  exact x_retRZ X R z3 hf dX12_has_14
set_option maxRecDepth 100000 in
set_option maxHeartbeats 4000000 in
theorem k_X12_has {ω : XO} (hω : ω.2.2.2.1 = 0) {L : List Nat} {q : Nat → Nat} {h : hp} {p0 : Int32} {p1 : Int32} {r : Int32} (hf : f_X12_has h p0 p1 = some r) : XM ω yX12_has cX12_has 3 (some .boolean) rm_X12_has L q h [.ref (q 52), .int p0, .int p1] (some (.int r)) h := by
  refine XM_intro [(0, .ref (q 52)), (1, .int p0), (2, .int p1)] "SignalBlindModel" (by decide) rfl rfl (Nat.le_of_ble_eq_true rfl) (fun κ X R => ?_)
  unfold f_X12_has at hf
  refine x_iload_n X dX12_has_0 1 rfl rfl ?_
  refine x_iload_n X dX12_has_1 2 rfl rfl ?_
  refine x_ishr X dX12_has_2 ?_
  refine x_iconst X (v := 1) dX12_has_3 (by decide) ?_
  refine x_iand X dX12_has_4 ?_
  refine x_iconst X (v := 1) dX12_has_5 (by decide) ?_
  refine x_icmp_ne X 13 dX12_has_6 (by decide) (fun c1 => ?_) (fun c1 => ?_)
  · replace hf := (if_pos c1).symm.trans hf
    refine x_iconst X (v := 1) dX12_has_9 (by decide) ?_
    refine x_goto X 14 dX12_has_10 (by decide) ?_
    refine x_lv [] rfl ?_
    exact k_X12_has_14 hω X R _ hf
  · replace hf := (if_neg c1).symm.trans hf
    refine x_iconst X (v := 0) dX12_has_13 (by decide) ?_
    refine x_lv [] rfl ?_
    exact k_X12_has_14 hω X R _ hf
theorem mt_X12_has : MT yX12_has cX12_has 3 (some .boolean) "SignalBlindModel" 2 := ⟨(mT_6 122 rfl rfl), (mTp (q := (yX12_has, 61)) (by decide +kernel) rfl), (mT_1 10 rfl rfl), (mT_6 123 rfl rfl), by decide⟩
theorem c_X12_197 {ω : XO} {rm : Room} {nL : Nat} {κ : XK} {cc : ByteArray} (X : XC ω rm nL κ cc "SignalBlindModel") (hω : ω.2.2.2.1 = 0) {L : List Nat} {q : Nat → Nat} {h : hp} {cells slots pc : Nat} {lv : List (Nat × Value)} {rest : List Value} {p0 : Int32} {p1 : Int32} {r : Int32} (hf : f_X12_has h p0 p1 = some r) (hR : rm_X12_has.frames + 1 ≤ rm.frames ∧ 8 + (3 + 11) + rm_X12_has.locals ≤ rm.locals) (hcs : cells ≤ rm.cells ∧ slots ≤ rm.slots) (hroom : (rest.map fun v => v.category).sum ≤ 8) (hd : decode cc pc = .ok (.invokevirtual 197, 3)) (kk : XG ω rm nL κ L q h cells slots (pc + 3) lv (.int r :: rest)) : XG ω rm nL κ L q h cells slots pc lv (.int p1 :: .int p0 :: .ref (q 52) :: rest) := x_callV X [.int p0, .int p1] rest (k_X12_has hω hf) mt_X12_has (mT_6 120 rfl rfl) hR ⟨rfl, rfl⟩ hcs (sdM_52 hω) (ks_52 _) (by decide) rfl rfl hroom hd kk

abbrev rm_X12_bits : Room := { frames := 1, cells := 0, slots := 0, locals := 22 }
def f_X12_bits_25 (h : hp) (k4 : Int32 → Int32 → Int32 → Option Int32) (a8 : Int32) (a9 : Int32) (a10 : Int32) (a11 : Int32) : Option Int32 := (nm (a11 + a10) fun v12 =>
 (nm (a9 + (1 : Int32)) fun v13 =>
 (k4 a8 v12 v13)))
def f_X12_bits_4 (h : hp) : Nat → Int32 → Int32 → Int32 → Option Int32
  | 0, _, _, _ => none
  | n + 1, a1, a2, a3 => (if a3 < (10 : Int32) then
 (bnr (f_X12_has h a1 a3) fun r5 =>
 (if r5 = 0 then
 (f_X12_bits_25 h (f_X12_bits_4 h n) a1 a3 (0 : Int32) a2)
 else
 (f_X12_bits_25 h (f_X12_bits_4 h n) a1 a3 (1 : Int32) a2)))
 else
 (some a2))
def f_X12_bits (h : hp) (p0 : Int32) : Option Int32 := (f_X12_bits_4 h 2000 p0 (0 : Int32) (0 : Int32))
set_option maxRecDepth 100000 in
set_option maxHeartbeats 4000000 in
theorem k_X12_bits_25 {ω : XO} (hω : ω.2.2.2.1 = 0) {κ : XK} (X : XC ω rm_X12_bits 4 κ cX12_bits "SignalBlindModel") {L : List Nat} {q : Nat → Nat} {h : hp} {r : Int32} (R : XRet ω rm_X12_bits κ (some .int) L q h (some (.int r))) (k4 : Int32 → Int32 → Int32 → Option Int32) (hk4 : ∀ (a1 : Int32) (a2 : Int32) (a3 : Int32), k4 a1 a2 a3 = some r → XG ω rm_X12_bits 4 κ L q h 0 0 4 [(0, .ref (q 52)), (1, .int a1), (2, .int a2), (3, .int a3)] []) : ∀ (a8 : Int32) (a9 : Int32) (a10 : Int32) (a11 : Int32), f_X12_bits_25 h k4 a8 a9 a10 a11 = some r → XG ω rm_X12_bits 4 κ L q h 0 0 25 [(0, .ref (q 52)), (1, .int a8), (3, .int a9)] [.int a10, .int a11] := by
  intro a8 a9 a10 a11 hf
  unfold f_X12_bits_25 at hf
  refine x_iadd X dX12_bits_25 ?_
  obtain ⟨v12, ev12, hf⟩ := nm_some hf
  refine x_nmI ev12 ?_
  refine x_istore_n X [(2, .int v12), (0, .ref (q 52)), (1, .int a8), (3, .int a9)] dX12_bits_26 rfl (Nat.le_of_ble_eq_true rfl) rfl ?_
  obtain ⟨v13, ev13, hf⟩ := nm_some hf
  refine x_iincN X (v := 1) ev13 [(3, .int v13), (2, .int v12), (0, .ref (q 52)), (1, .int a8)] dX12_bits_27 3 rfl (by decide) (Nat.le_of_ble_eq_true rfl) rfl ?_
  refine x_goto X 4 dX12_bits_30 (by decide) ?_
  refine x_lv [2, 3, 1, 0] rfl ?_
  exact hk4 _ _ _ hf
set_option maxRecDepth 100000 in
set_option maxHeartbeats 4000000 in
theorem k_X12_bits_4 {ω : XO} (hω : ω.2.2.2.1 = 0) {κ : XK} (X : XC ω rm_X12_bits 4 κ cX12_bits "SignalBlindModel") {L : List Nat} {q : Nat → Nat} {h : hp} {r : Int32} (R : XRet ω rm_X12_bits κ (some .int) L q h (some (.int r))) : ∀ (n : Nat) (a1 : Int32) (a2 : Int32) (a3 : Int32), f_X12_bits_4 h n a1 a2 a3 = some r → XG ω rm_X12_bits 4 κ L q h 0 0 4 [(0, .ref (q 52)), (1, .int a1), (2, .int a2), (3, .int a3)] [] := by
  intro n
  induction n with
  | zero =>
    intro a1 a2 a3 hf
    have hf : (none : Option Int32) = some r := hf
    cases hf
  | succ n ih =>
    intro a1 a2 a3 hf
    rw [f_X12_bits_4] at hf
    refine x_iload_n X dX12_bits_4 3 rfl rfl ?_
    refine x_bipush X (v := 10) dX12_bits_5 (by decide) ?_
    refine x_icmp_ge X 33 dX12_bits_7 (by decide) (fun c4 => ?_) (fun c4 => ?_)
    · replace hf := (if_pos c4).symm.trans hf
      refine x_iload_n X dX12_bits_10 2 rfl rfl ?_
      refine x_aload_n X dX12_bits_11 0 rfl rfl ?_
      refine x_iload_n X dX12_bits_12 1 rfl rfl ?_
      refine x_iload_n X dX12_bits_13 3 rfl rfl ?_
      obtain ⟨r5, g6, hf⟩ := bnr_some hf
      refine c_X12_197 X hω g6 (hR := ⟨Nat.le_of_ble_eq_true rfl, Nat.le_of_ble_eq_true rfl⟩) ⟨Nat.zero_le _, Nat.zero_le _⟩ (Nat.le_of_ble_eq_true rfl) dX12_bits_14 ?_
      refine x_if_eq X 24 dX12_bits_17 (by decide) (fun c7 => ?_) (fun c7 => ?_)
      · replace hf := (if_pos c7).symm.trans hf
        refine x_iconst X (v := 0) dX12_bits_24 (by decide) ?_
        refine x_lv [0, 1, 3] rfl ?_
        exact k_X12_bits_25 hω X R _ ih _ _ _ _ hf
      · replace hf := (if_neg c7).symm.trans hf
        refine x_iconst X (v := 1) dX12_bits_20 (by decide) ?_
        refine x_goto X 25 dX12_bits_21 (by decide) ?_
        refine x_lv [0, 1, 3] rfl ?_
        exact k_X12_bits_25 hω X R _ ih _ _ _ _ hf
    · replace hf := (if_neg c4).symm.trans hf
      refine x_iload_n X dX12_bits_33 2 rfl rfl ?_
      exact x_retRI X R hf dX12_bits_34
set_option maxRecDepth 100000 in
set_option maxHeartbeats 4000000 in
theorem k_X12_bits {ω : XO} (hω : ω.2.2.2.1 = 0) {L : List Nat} {q : Nat → Nat} {h : hp} {p0 : Int32} {r : Int32} (hf : f_X12_bits h p0 = some r) : XM ω yX12_bits cX12_bits 4 (some .int) rm_X12_bits L q h [.ref (q 52), .int p0] (some (.int r)) h := by
  refine XM_intro [(0, .ref (q 52)), (1, .int p0)] "SignalBlindModel" (by decide) rfl rfl (Nat.le_of_ble_eq_true rfl) (fun κ X R => ?_)
  unfold f_X12_bits at hf
  refine x_iconst X (v := 0) dX12_bits_0 (by decide) ?_
  refine x_istore_n X [(2, .int (0 : Int32)), (0, .ref (q 52)), (1, .int p0)] dX12_bits_1 rfl (Nat.le_of_ble_eq_true rfl) rfl ?_
  refine x_iconst X (v := 0) dX12_bits_2 (by decide) ?_
  refine x_istore_n X [(3, .int (0 : Int32)), (2, .int (0 : Int32)), (0, .ref (q 52)), (1, .int p0)] dX12_bits_3 rfl (Nat.le_of_ble_eq_true rfl) rfl ?_
  refine x_lv [2, 3, 1, 0] rfl ?_
  exact k_X12_bits_4 hω X R _ _ _ _ hf
theorem mt_X12_bits : MT yX12_bits cX12_bits 4 (some .int) "SignalBlindModel" 1 := ⟨(mT_6 118 rfl rfl), (mTp (q := (yX12_bits, 61)) (by decide +kernel) rfl), (mT_1 10 rfl rfl), (mT_6 119 rfl rfl), by decide⟩
theorem c_X12_267 {ω : XO} {rm : Room} {nL : Nat} {κ : XK} {cc : ByteArray} (X : XC ω rm nL κ cc "SignalBlindModel") (hω : ω.2.2.2.1 = 0) {L : List Nat} {q : Nat → Nat} {h : hp} {cells slots pc : Nat} {lv : List (Nat × Value)} {rest : List Value} {p0 : Int32} {r : Int32} (hf : f_X12_bits h p0 = some r) (hR : rm_X12_bits.frames + 1 ≤ rm.frames ∧ 8 + (4 + 11) + rm_X12_bits.locals ≤ rm.locals) (hcs : cells ≤ rm.cells ∧ slots ≤ rm.slots) (hroom : (rest.map fun v => v.category).sum ≤ 8) (hd : decode cc pc = .ok (.invokevirtual 267, 3)) (kk : XG ω rm nL κ L q h cells slots (pc + 3) lv (.int r :: rest)) : XG ω rm nL κ L q h cells slots pc lv (.int p0 :: .ref (q 52) :: rest) := x_callV X [.int p0] rest (k_X12_bits hω hf) mt_X12_bits (mT_6 116 rfl rfl) hR ⟨rfl, rfl⟩ hcs (sdM_52 hω) (ks_52 _) (by decide) rfl rfl hroom hd kk

abbrev rm_X12_isSign : Room := { frames := 1, cells := 0, slots := 0, locals := 23 }
def f_X12_isSign (h : hp) (p0 : Int32) : Option Int32 := (bnr (f_X12_in h p0 (0 : Int32) (1023 : Int32)) fun r1 =>
 (ckZ r1
 (some r1)))
set_option maxRecDepth 100000 in
set_option maxHeartbeats 4000000 in
theorem k_X12_isSign {ω : XO} (hω : ω.2.2.2.1 = 0) {L : List Nat} {q : Nat → Nat} {h : hp} {p0 : Int32} {r : Int32} (hf : f_X12_isSign h p0 = some r) : XM ω yX12_isSign cX12_isSign 2 (some .boolean) rm_X12_isSign L q h [.ref (q 52), .int p0] (some (.int r)) h := by
  refine XM_intro [(0, .ref (q 52)), (1, .int p0)] "SignalBlindModel" (by decide) rfl rfl (Nat.le_of_ble_eq_true rfl) (fun κ X R => ?_)
  unfold f_X12_isSign at hf
  refine x_aload_n X dX12_isSign_0 0 rfl rfl ?_
  refine x_iload_n X dX12_isSign_1 1 rfl rfl ?_
  refine x_iconst X (v := 0) dX12_isSign_2 (by decide) ?_
  refine x_sipush X (v := 1023) dX12_isSign_3 (by decide) ?_
  obtain ⟨r1, g2, hf⟩ := bnr_some hf
  refine c_X12_201 X hω g2 (hR := ⟨Nat.le_of_ble_eq_true rfl, Nat.le_of_ble_eq_true rfl⟩) ⟨Nat.zero_le _, Nat.zero_le _⟩ (Nat.le_of_ble_eq_true rfl) dX12_isSign_6 ?_
  obtain ⟨z3, hf⟩ := ckZ_some hf
  exact x_retRZ X R z3 hf dX12_isSign_9
theorem mt_X12_isSign : MT yX12_isSign cX12_isSign 2 (some .boolean) "SignalBlindModel" 1 := ⟨(mT_5 230 rfl rfl), (mTp (q := (yX12_isSign, 61)) (by decide +kernel) rfl), (mT_1 10 rfl rfl), (mT_5 231 rfl rfl), by decide⟩
theorem c_X12_205 {ω : XO} {rm : Room} {nL : Nat} {κ : XK} {cc : ByteArray} (X : XC ω rm nL κ cc "SignalBlindModel") (hω : ω.2.2.2.1 = 0) {L : List Nat} {q : Nat → Nat} {h : hp} {cells slots pc : Nat} {lv : List (Nat × Value)} {rest : List Value} {p0 : Int32} {r : Int32} (hf : f_X12_isSign h p0 = some r) (hR : rm_X12_isSign.frames + 1 ≤ rm.frames ∧ 8 + (2 + 11) + rm_X12_isSign.locals ≤ rm.locals) (hcs : cells ≤ rm.cells ∧ slots ≤ rm.slots) (hroom : (rest.map fun v => v.category).sum ≤ 8) (hd : decode cc pc = .ok (.invokevirtual 205, 3)) (kk : XG ω rm nL κ L q h cells slots (pc + 3) lv (.int r :: rest)) : XG ω rm nL κ L q h cells slots pc lv (.int p0 :: .ref (q 52) :: rest) := x_callV X [.int p0] rest (k_X12_isSign hω hf) mt_X12_isSign (mT_5 228 rfl rfl) hR ⟨rfl, rfl⟩ hcs (sdM_52 hω) (ks_52 _) (by decide) rfl rfl hroom hd kk

abbrev rm_X12_isWord : Room := { frames := 1, cells := 0, slots := 0, locals := 23 }
def f_X12_isWord (h : hp) (p0 : Int32) : Option Int32 := (bnr (f_X12_in h p0 (0 : Int32) ((hI h 52 0) - (1 : Int32))) fun r1 =>
 (ckZ r1
 (some r1)))
set_option maxRecDepth 100000 in
set_option maxHeartbeats 4000000 in
theorem k_X12_isWord {ω : XO} (hω : ω.2.2.2.1 = 0) {L : List Nat} {q : Nat → Nat} {h : hp} {p0 : Int32} {r : Int32} (hf : f_X12_isWord h p0 = some r) : XM ω yX12_isWord cX12_isWord 2 (some .boolean) rm_X12_isWord L q h [.ref (q 52), .int p0] (some (.int r)) h := by
  refine XM_intro [(0, .ref (q 52)), (1, .int p0)] "SignalBlindModel" (by decide) rfl rfl (Nat.le_of_ble_eq_true rfl) (fun κ X R => ?_)
  unfold f_X12_isWord at hf
  refine x_aload_n X dX12_isWord_0 0 rfl rfl ?_
  refine x_iload_n X dX12_isWord_1 1 rfl rfl ?_
  refine x_iconst X (v := 0) dX12_isWord_2 (by decide) ?_
  refine x_aload_n X dX12_isWord_3 0 rfl rfl ?_
  refine x_geti X (i := 52) fl_X12_7_13 (sdM_52 hω) (ks_52 _) rfl dX12_isWord_4 ?_
  refine x_iconst X (v := 1) dX12_isWord_7 (by decide) ?_
  refine x_isub X dX12_isWord_8 ?_
  obtain ⟨r1, g2, hf⟩ := bnr_some hf
  refine c_X12_201 X hω g2 (hR := ⟨Nat.le_of_ble_eq_true rfl, Nat.le_of_ble_eq_true rfl⟩) ⟨Nat.zero_le _, Nat.zero_le _⟩ (Nat.le_of_ble_eq_true rfl) dX12_isWord_9 ?_
  obtain ⟨z3, hf⟩ := ckZ_some hf
  exact x_retRZ X R z3 hf dX12_isWord_12
theorem mt_X12_isWord : MT yX12_isWord cX12_isWord 2 (some .boolean) "SignalBlindModel" 1 := ⟨(mT_6 2 rfl rfl), (mTp (q := (yX12_isWord, 61)) (by decide +kernel) rfl), (mT_1 10 rfl rfl), (mT_6 3 rfl rfl), by decide⟩
theorem c_X12_209 {ω : XO} {rm : Room} {nL : Nat} {κ : XK} {cc : ByteArray} (X : XC ω rm nL κ cc "SignalBlindModel") (hω : ω.2.2.2.1 = 0) {L : List Nat} {q : Nat → Nat} {h : hp} {cells slots pc : Nat} {lv : List (Nat × Value)} {rest : List Value} {p0 : Int32} {r : Int32} (hf : f_X12_isWord h p0 = some r) (hR : rm_X12_isWord.frames + 1 ≤ rm.frames ∧ 8 + (2 + 11) + rm_X12_isWord.locals ≤ rm.locals) (hcs : cells ≤ rm.cells ∧ slots ≤ rm.slots) (hroom : (rest.map fun v => v.category).sum ≤ 8) (hd : decode cc pc = .ok (.invokevirtual 209, 3)) (kk : XG ω rm nL κ L q h cells slots (pc + 3) lv (.int r :: rest)) : XG ω rm nL κ L q h cells slots pc lv (.int p0 :: .ref (q 52) :: rest) := x_callV X [.int p0] rest (k_X12_isWord hω hf) mt_X12_isWord (mT_6 0 rfl rfl) hR ⟨rfl, rfl⟩ hcs (sdM_52 hω) (ks_52 _) (by decide) rfl rfl hroom hd kk

abbrev rm_X12_isSender : Room := { frames := 1, cells := 0, slots := 0, locals := 23 }
def f_X12_isSender (h : hp) (p0 : Int32) : Option Int32 := (bnr (f_X12_in h p0 (0 : Int32) ((hI h 52 1) - (1 : Int32))) fun r1 =>
 (ckZ r1
 (some r1)))
set_option maxRecDepth 100000 in
set_option maxHeartbeats 4000000 in
theorem k_X12_isSender {ω : XO} (hω : ω.2.2.2.1 = 0) {L : List Nat} {q : Nat → Nat} {h : hp} {p0 : Int32} {r : Int32} (hf : f_X12_isSender h p0 = some r) : XM ω yX12_isSender cX12_isSender 2 (some .boolean) rm_X12_isSender L q h [.ref (q 52), .int p0] (some (.int r)) h := by
  refine XM_intro [(0, .ref (q 52)), (1, .int p0)] "SignalBlindModel" (by decide) rfl rfl (Nat.le_of_ble_eq_true rfl) (fun κ X R => ?_)
  unfold f_X12_isSender at hf
  refine x_aload_n X dX12_isSender_0 0 rfl rfl ?_
  refine x_iload_n X dX12_isSender_1 1 rfl rfl ?_
  refine x_iconst X (v := 0) dX12_isSender_2 (by decide) ?_
  refine x_aload_n X dX12_isSender_3 0 rfl rfl ?_
  refine x_geti X (i := 52) fl_X12_13_13 (sdM_52 hω) (ks_52 _) rfl dX12_isSender_4 ?_
  refine x_iconst X (v := 1) dX12_isSender_7 (by decide) ?_
  refine x_isub X dX12_isSender_8 ?_
  obtain ⟨r1, g2, hf⟩ := bnr_some hf
  refine c_X12_201 X hω g2 (hR := ⟨Nat.le_of_ble_eq_true rfl, Nat.le_of_ble_eq_true rfl⟩) ⟨Nat.zero_le _, Nat.zero_le _⟩ (Nat.le_of_ble_eq_true rfl) dX12_isSender_9 ?_
  obtain ⟨z3, hf⟩ := ckZ_some hf
  exact x_retRZ X R z3 hf dX12_isSender_12
theorem mt_X12_isSender : MT yX12_isSender cX12_isSender 2 (some .boolean) "SignalBlindModel" 1 := ⟨(mT_6 14 rfl rfl), (mTp (q := (yX12_isSender, 61)) (by decide +kernel) rfl), (mT_1 10 rfl rfl), (mT_6 15 rfl rfl), by decide⟩
theorem c_X12_212 {ω : XO} {rm : Room} {nL : Nat} {κ : XK} {cc : ByteArray} (X : XC ω rm nL κ cc "SignalBlindModel") (hω : ω.2.2.2.1 = 0) {L : List Nat} {q : Nat → Nat} {h : hp} {cells slots pc : Nat} {lv : List (Nat × Value)} {rest : List Value} {p0 : Int32} {r : Int32} (hf : f_X12_isSender h p0 = some r) (hR : rm_X12_isSender.frames + 1 ≤ rm.frames ∧ 8 + (2 + 11) + rm_X12_isSender.locals ≤ rm.locals) (hcs : cells ≤ rm.cells ∧ slots ≤ rm.slots) (hroom : (rest.map fun v => v.category).sum ≤ 8) (hd : decode cc pc = .ok (.invokevirtual 212, 3)) (kk : XG ω rm nL κ L q h cells slots (pc + 3) lv (.int r :: rest)) : XG ω rm nL κ L q h cells slots pc lv (.int p0 :: .ref (q 52) :: rest) := x_callV X [.int p0] rest (k_X12_isSender hω hf) mt_X12_isSender (mT_6 12 rfl rfl) hR ⟨rfl, rfl⟩ hcs (sdM_52 hω) (ks_52 _) (by decide) rfl rfl hroom hd kk

abbrev rm_X12_word : Room := { frames := 2, cells := 0, slots := 0, locals := 44 }
def f_X12_word (h : hp) (p0 : Int32) : Option (hp × Int32) := (bnr (f_X12_isSign h p0) fun r1 =>
 (if r1 = 0 then
 (some (h, (-2 : Int32)))
 else
 (if (hI h 52 0) = (8 : Int32) then
 (some (h, (-4 : Int32)))
 else
 (chk (hI h 52 0) 8
 (nm (tI h 53 ((hI h 52 0)).toNatClampNeg p0) fun h6 =>
 (nm (sI h6 52 0 ((hI h6 52 0) + (1 : Int32))) fun h7 =>
 (some (h7, ((hI h7 52 0) - (1 : Int32))))))))))
set_option maxRecDepth 100000 in
set_option maxHeartbeats 4000000 in
theorem k_X12_word {ω : XO} (hω : ω.2.2.2.1 = 0) {L : List Nat} {q : Nat → Nat} {h h' : hp} {p0 : Int32} {r : Int32} (hf : f_X12_word h p0 = some (h', r)) : XM ω yX12_word cX12_word 2 (some .int) rm_X12_word L q h [.ref (q 52), .int p0] (some (.int r)) h' := by
  refine XM_intro [(0, .ref (q 52)), (1, .int p0)] "SignalBlindModel" (by decide) rfl rfl (Nat.le_of_ble_eq_true rfl) (fun κ X R => ?_)
  unfold f_X12_word at hf
  refine x_aload_n X dX12_word_0 0 rfl rfl ?_
  refine x_iload_n X dX12_word_1 1 rfl rfl ?_
  obtain ⟨r1, g2, hf⟩ := bnr_some hf
  refine c_X12_205 X hω g2 (hR := ⟨Nat.le_of_ble_eq_true rfl, Nat.le_of_ble_eq_true rfl⟩) ⟨Nat.zero_le _, Nat.zero_le _⟩ (Nat.le_of_ble_eq_true rfl) dX12_word_2 ?_
  refine x_if_ne X 11 dX12_word_5 (by decide) (fun c3 => ?_) (fun c3 => ?_)
  · replace hf := (if_pos c3).symm.trans hf
    refine x_bipush X (v := -2) dX12_word_8 (by decide) ?_
    exact x_retSI X R hf dX12_word_10
  · replace hf := (if_neg c3).symm.trans hf
    refine x_aload_n X dX12_word_11 0 rfl rfl ?_
    refine x_geti X (i := 52) fl_X12_7_13 (sdM_52 hω) (ks_52 _) rfl dX12_word_12 ?_
    refine x_bipush X (v := 8) dX12_word_15 (by decide) ?_
    refine x_icmp_ne X 23 dX12_word_17 (by decide) (fun c4 => ?_) (fun c4 => ?_)
    · replace hf := (if_pos c4).symm.trans hf
      refine x_bipush X (v := -4) dX12_word_20 (by decide) ?_
      exact x_retSI X R hf dX12_word_22
    · replace hf := (if_neg c4).symm.trans hf
      refine x_aload_n X dX12_word_23 0 rfl rfl ?_
      refine x_getsj X (i := 52) 1 fl_X12_19_13 (sdM_52 hω) (ks_52 _) rfl (j := 53) rfl dX12_word_24 ?_
      refine x_aload_n X dX12_word_27 0 rfl rfl ?_
      refine x_geti X (i := 52) fl_X12_7_13 (sdM_52 hω) (ks_52 _) rfl dX12_word_28 ?_
      refine x_iload_n X dX12_word_31 1 rfl rfl ?_
      obtain ⟨z5, hf⟩ := chk_some hf
      refine x_iast X (i := 53) (n := 8) (sdM_53 hω) (ks_53 _) z5 dX12_word_32 ?_
      obtain ⟨h6, eh6, hf⟩ := nm_some hf
      refine x_nmh eh6 ?_
      refine x_aload_n X dX12_word_33 0 rfl rfl ?_
      refine x_dup X dX12_word_34 rfl ?_
      refine x_geti X (i := 52) fl_X12_7_13 (sdM_52 hω) (ks_52 _) rfl dX12_word_35 ?_
      refine x_iconst X (v := 1) dX12_word_38 (by decide) ?_
      refine x_iadd X dX12_word_39 ?_
      refine x_puti X (i := 52) fl_X12_7_13 fw_13 (sdM_52 hω) (ks_52 _) rfl rfl rfl rfl dX12_word_40 ?_
      obtain ⟨h7, eh7, hf⟩ := nm_some hf
      refine x_nmh eh7 ?_
      refine x_aload_n X dX12_word_43 0 rfl rfl ?_
      refine x_geti X (i := 52) fl_X12_7_13 (sdM_52 hω) (ks_52 _) rfl dX12_word_44 ?_
      refine x_iconst X (v := 1) dX12_word_47 (by decide) ?_
      refine x_isub X dX12_word_48 ?_
      exact x_retSI X R hf dX12_word_49
theorem mt_X12_word : MT yX12_word cX12_word 2 (some .int) "SignalBlindModel" 1 := ⟨(mT_5 225 rfl rfl), (mT_5 226 rfl rfl), (mT_1 10 rfl rfl), (mT_5 227 rfl rfl), by decide⟩

abbrev rm_X12_alter : Room := { frames := 2, cells := 0, slots := 0, locals := 44 }
def f_X12_alter (h : hp) (p0 : Int32) (p1 : Int32) : Option (hp × Int32) := (bnr (f_X12_isWord h p0) fun r1 =>
 (if r1 = 0 then
 (some (h, (-1 : Int32)))
 else
 (bnr (f_X12_isSign h p1) fun r4 =>
 (if r4 = 0 then
 (some (h, (-2 : Int32)))
 else
 (chk p0 8
 (nm (aI h 53 (p0).toNatClampNeg) fun v8 =>
 (chk p0 8
 (nm (tI h 53 (p0).toNatClampNeg p1) fun h10 =>
 (some (h10, v8))))))))))
set_option maxRecDepth 100000 in
set_option maxHeartbeats 4000000 in
theorem k_X12_alter {ω : XO} (hω : ω.2.2.2.1 = 0) {L : List Nat} {q : Nat → Nat} {h h' : hp} {p0 : Int32} {p1 : Int32} {r : Int32} (hf : f_X12_alter h p0 p1 = some (h', r)) : XM ω yX12_alter cX12_alter 4 (some .int) rm_X12_alter L q h [.ref (q 52), .int p0, .int p1] (some (.int r)) h' := by
  refine XM_intro [(0, .ref (q 52)), (1, .int p0), (2, .int p1)] "SignalBlindModel" (by decide) rfl rfl (Nat.le_of_ble_eq_true rfl) (fun κ X R => ?_)
  unfold f_X12_alter at hf
  refine x_aload_n X dX12_alter_0 0 rfl rfl ?_
  refine x_iload_n X dX12_alter_1 1 rfl rfl ?_
  obtain ⟨r1, g2, hf⟩ := bnr_some hf
  refine c_X12_209 X hω g2 (hR := ⟨Nat.le_of_ble_eq_true rfl, Nat.le_of_ble_eq_true rfl⟩) ⟨Nat.zero_le _, Nat.zero_le _⟩ (Nat.le_of_ble_eq_true rfl) dX12_alter_2 ?_
  refine x_if_ne X 10 dX12_alter_5 (by decide) (fun c3 => ?_) (fun c3 => ?_)
  · replace hf := (if_pos c3).symm.trans hf
    refine x_iconst X (v := -1) dX12_alter_8 (by decide) ?_
    exact x_retSI X R hf dX12_alter_9
  · replace hf := (if_neg c3).symm.trans hf
    refine x_aload_n X dX12_alter_10 0 rfl rfl ?_
    refine x_iload_n X dX12_alter_11 2 rfl rfl ?_
    obtain ⟨r4, g5, hf⟩ := bnr_some hf
    refine c_X12_205 X hω g5 (hR := ⟨Nat.le_of_ble_eq_true rfl, Nat.le_of_ble_eq_true rfl⟩) ⟨Nat.zero_le _, Nat.zero_le _⟩ (Nat.le_of_ble_eq_true rfl) dX12_alter_12 ?_
    refine x_if_ne X 21 dX12_alter_15 (by decide) (fun c6 => ?_) (fun c6 => ?_)
    · replace hf := (if_pos c6).symm.trans hf
      refine x_bipush X (v := -2) dX12_alter_18 (by decide) ?_
      exact x_retSI X R hf dX12_alter_20
    · replace hf := (if_neg c6).symm.trans hf
      refine x_aload_n X dX12_alter_21 0 rfl rfl ?_
      refine x_getsj X (i := 52) 1 fl_X12_19_13 (sdM_52 hω) (ks_52 _) rfl (j := 53) rfl dX12_alter_22 ?_
      refine x_iload_n X dX12_alter_25 1 rfl rfl ?_
      obtain ⟨z7, hf⟩ := chk_some hf
      refine x_iald X (i := 53) (n := 8) (sdM_53 hω) (ks_53 _) z7 dX12_alter_26 ?_
      obtain ⟨v8, ev8, hf⟩ := nm_some hf
      refine x_nmI ev8 ?_
      refine x_istore_n X [(3, .int v8), (0, .ref (q 52)), (1, .int p0), (2, .int p1)] dX12_alter_27 rfl (Nat.le_of_ble_eq_true rfl) rfl ?_
      refine x_aload_n X dX12_alter_28 1 rfl rfl ?_
      refine x_getsj X (i := 52) 1 fl_X12_19_13 (sdM_52 hω) (ks_52 _) rfl (j := 53) rfl dX12_alter_29 ?_
      refine x_iload_n X dX12_alter_32 2 rfl rfl ?_
      refine x_iload_n X dX12_alter_33 3 rfl rfl ?_
      obtain ⟨z9, hf⟩ := chk_some hf
      refine x_iast X (i := 53) (n := 8) (sdM_53 hω) (ks_53 _) z9 dX12_alter_34 ?_
      obtain ⟨h10, eh10, hf⟩ := nm_some hf
      refine x_nmh eh10 ?_
      refine x_iload_n X dX12_alter_35 0 rfl rfl ?_
      exact x_retSI X R hf dX12_alter_36
theorem mt_X12_alter : MT yX12_alter cX12_alter 4 (some .int) "SignalBlindModel" 2 := ⟨(mT_5 237 rfl rfl), (mT_5 238 rfl rfl), (mT_1 10 rfl rfl), (mT_5 239 rfl rfl), by decide⟩

abbrev rm_X12_sender : Room := { frames := 1, cells := 0, slots := 0, locals := 23 }
def f_X12_sender_70 : Nat → hp → Int32 → Option (hp × Int32)
  | 0, _, _ => none
  | n + 1, h, a14 => (if a14 < (4 : Int32) then
 (chk (((4 : Int32) * (hI h 52 1)) + a14) 20
 (nm (tI h 57 ((((4 : Int32) * (hI h 52 1)) + a14)).toNatClampNeg (0 : Int32)) fun h17 =>
 (nm (a14 + (1 : Int32)) fun v18 =>
 ((f_X12_sender_70 n) h17 v18))))
 else
 (nm (sI h 52 1 ((hI h 52 1) + (1 : Int32))) fun h19 =>
 (some (h19, ((hI h19 52 1) - (1 : Int32))))))
def f_X12_sender (h : hp) (p0 : Int32) (p1 : Int32) : Option (hp × Int32) := (bnr (f_X12_in h p0 (0 : Int32) (6 : Int32)) fun r1 =>
 (if r1 = 0 then
 (some (h, (-1 : Int32)))
 else
 (bnr (f_X12_in h p1 (0 : Int32) (9 : Int32)) fun r4 =>
 (if r4 = 0 then
 (some (h, (-2 : Int32)))
 else
 (if (hI h 52 1) = (5 : Int32) then
 (some (h, (-4 : Int32)))
 else
 (chk (hI h 52 1) 5
 (nm (tI h 54 ((hI h 52 1)).toNatClampNeg p0) fun h9 =>
 (chk (hI h9 52 1) 5
 (nm (tI h9 55 ((hI h9 52 1)).toNatClampNeg p1) fun h11 =>
 (chk (hI h11 52 1) 5
 (nm (tI h11 56 ((hI h11 52 1)).toNatClampNeg (0 : Int32)) fun h13 =>
 (f_X12_sender_70 2000 h13 (0 : Int32)))))))))))))
set_option maxRecDepth 100000 in
set_option maxHeartbeats 4000000 in
theorem k_X12_sender_70 {ω : XO} (hω : ω.2.2.2.1 = 0) {κ : XK} (X : XC ω rm_X12_sender 4 κ cX12_sender "SignalBlindModel") {L : List Nat} {q : Nat → Nat} {h' : hp} {r : Int32} (R : XRet ω rm_X12_sender κ (some .int) L q h' (some (.int r))) : ∀ (n : Nat) (h : hp) (a14 : Int32), f_X12_sender_70 n h a14 = some (h', r) → XG ω rm_X12_sender 4 κ L q h 0 0 70 [(0, .ref (q 52)), (3, .int a14)] [] := by
  intro n
  induction n with
  | zero =>
    intro h a14 hf
    have hf : (none : Option (hp × Int32)) = some (h', r) := hf
    cases hf
  | succ n ih =>
    intro h a14 hf
    rw [f_X12_sender_70] at hf
    refine x_iload_n X dX12_sender_70 1 rfl rfl ?_
    refine x_iconst X (v := 4) dX12_sender_71 (by decide) ?_
    refine x_icmp_ge X 95 dX12_sender_72 (by decide) (fun c15 => ?_) (fun c15 => ?_)
    · replace hf := (if_pos c15).symm.trans hf
      refine x_aload_n X dX12_sender_75 0 rfl rfl ?_
      refine x_getsj X (i := 52) 5 fl_X12_32_13 (sdM_52 hω) (ks_52 _) rfl (j := 57) rfl dX12_sender_76 ?_
      refine x_iconst X (v := 4) dX12_sender_79 (by decide) ?_
      refine x_aload_n X dX12_sender_80 0 rfl rfl ?_
      refine x_geti X (i := 52) fl_X12_13_13 (sdM_52 hω) (ks_52 _) rfl dX12_sender_81 ?_
      refine x_imul X dX12_sender_84 ?_
      refine x_iload_n X dX12_sender_85 1 rfl rfl ?_
      refine x_iadd X dX12_sender_86 ?_
      refine x_iconst X (v := 0) dX12_sender_87 (by decide) ?_
      obtain ⟨z16, hf⟩ := chk_some hf
      refine x_iast X (i := 57) (n := 20) (sdM_57 hω) (ks_57 _) z16 dX12_sender_88 ?_
      obtain ⟨h17, eh17, hf⟩ := nm_some hf
      refine x_nmh eh17 ?_
      obtain ⟨v18, ev18, hf⟩ := nm_some hf
      refine x_iincN X (v := 1) ev18 [(3, .int v18), (0, .ref (q 52))] dX12_sender_89 1 rfl (by decide) (Nat.le_of_ble_eq_true rfl) rfl ?_
      refine x_goto X 70 dX12_sender_92 (by decide) ?_
      refine x_lv [1, 0] rfl ?_
      exact ih h17 _ hf
    · replace hf := (if_neg c15).symm.trans hf
      refine x_aload_n X dX12_sender_95 0 rfl rfl ?_
      refine x_dup X dX12_sender_96 rfl ?_
      refine x_geti X (i := 52) fl_X12_13_13 (sdM_52 hω) (ks_52 _) rfl dX12_sender_97 ?_
      refine x_iconst X (v := 1) dX12_sender_100 (by decide) ?_
      refine x_iadd X dX12_sender_101 ?_
      refine x_puti X (i := 52) fl_X12_13_13 fw_13 (sdM_52 hω) (ks_52 _) rfl rfl rfl rfl dX12_sender_102 ?_
      obtain ⟨h19, eh19, hf⟩ := nm_some hf
      refine x_nmh eh19 ?_
      refine x_aload_n X dX12_sender_105 0 rfl rfl ?_
      refine x_geti X (i := 52) fl_X12_13_13 (sdM_52 hω) (ks_52 _) rfl dX12_sender_106 ?_
      refine x_iconst X (v := 1) dX12_sender_109 (by decide) ?_
      refine x_isub X dX12_sender_110 ?_
      exact x_retSI X R hf dX12_sender_111
set_option maxRecDepth 100000 in
set_option maxHeartbeats 4000000 in
theorem k_X12_sender {ω : XO} (hω : ω.2.2.2.1 = 0) {L : List Nat} {q : Nat → Nat} {h h' : hp} {p0 : Int32} {p1 : Int32} {r : Int32} (hf : f_X12_sender h p0 p1 = some (h', r)) : XM ω yX12_sender cX12_sender 4 (some .int) rm_X12_sender L q h [.ref (q 52), .int p0, .int p1] (some (.int r)) h' := by
  refine XM_intro [(0, .ref (q 52)), (1, .int p0), (2, .int p1)] "SignalBlindModel" (by decide) rfl rfl (Nat.le_of_ble_eq_true rfl) (fun κ X R => ?_)
  unfold f_X12_sender at hf
  refine x_aload_n X dX12_sender_0 0 rfl rfl ?_
  refine x_iload_n X dX12_sender_1 1 rfl rfl ?_
  refine x_iconst X (v := 0) dX12_sender_2 (by decide) ?_
  refine x_bipush X (v := 6) dX12_sender_3 (by decide) ?_
  obtain ⟨r1, g2, hf⟩ := bnr_some hf
  refine c_X12_201 X hω g2 (hR := ⟨Nat.le_of_ble_eq_true rfl, Nat.le_of_ble_eq_true rfl⟩) ⟨Nat.zero_le _, Nat.zero_le _⟩ (Nat.le_of_ble_eq_true rfl) dX12_sender_5 ?_
  refine x_if_ne X 13 dX12_sender_8 (by decide) (fun c3 => ?_) (fun c3 => ?_)
  · replace hf := (if_pos c3).symm.trans hf
    refine x_iconst X (v := -1) dX12_sender_11 (by decide) ?_
    exact x_retSI X R hf dX12_sender_12
  · replace hf := (if_neg c3).symm.trans hf
    refine x_aload_n X dX12_sender_13 0 rfl rfl ?_
    refine x_iload_n X dX12_sender_14 2 rfl rfl ?_
    refine x_iconst X (v := 0) dX12_sender_15 (by decide) ?_
    refine x_bipush X (v := 9) dX12_sender_16 (by decide) ?_
    obtain ⟨r4, g5, hf⟩ := bnr_some hf
    refine c_X12_201 X hω g5 (hR := ⟨Nat.le_of_ble_eq_true rfl, Nat.le_of_ble_eq_true rfl⟩) ⟨Nat.zero_le _, Nat.zero_le _⟩ (Nat.le_of_ble_eq_true rfl) dX12_sender_18 ?_
    refine x_if_ne X 27 dX12_sender_21 (by decide) (fun c6 => ?_) (fun c6 => ?_)
    · replace hf := (if_pos c6).symm.trans hf
      refine x_bipush X (v := -2) dX12_sender_24 (by decide) ?_
      exact x_retSI X R hf dX12_sender_26
    · replace hf := (if_neg c6).symm.trans hf
      refine x_aload_n X dX12_sender_27 0 rfl rfl ?_
      refine x_geti X (i := 52) fl_X12_13_13 (sdM_52 hω) (ks_52 _) rfl dX12_sender_28 ?_
      refine x_iconst X (v := 5) dX12_sender_31 (by decide) ?_
      refine x_icmp_ne X 38 dX12_sender_32 (by decide) (fun c7 => ?_) (fun c7 => ?_)
      · replace hf := (if_pos c7).symm.trans hf
        refine x_bipush X (v := -4) dX12_sender_35 (by decide) ?_
        exact x_retSI X R hf dX12_sender_37
      · replace hf := (if_neg c7).symm.trans hf
        refine x_aload_n X dX12_sender_38 0 rfl rfl ?_
        refine x_getsj X (i := 52) 2 fl_X12_23_13 (sdM_52 hω) (ks_52 _) rfl (j := 54) rfl dX12_sender_39 ?_
        refine x_aload_n X dX12_sender_42 0 rfl rfl ?_
        refine x_geti X (i := 52) fl_X12_13_13 (sdM_52 hω) (ks_52 _) rfl dX12_sender_43 ?_
        refine x_iload_n X dX12_sender_46 1 rfl rfl ?_
        obtain ⟨z8, hf⟩ := chk_some hf
        refine x_iast X (i := 54) (n := 5) (sdM_54 hω) (ks_54 _) z8 dX12_sender_47 ?_
        obtain ⟨h9, eh9, hf⟩ := nm_some hf
        refine x_nmh eh9 ?_
        refine x_aload_n X dX12_sender_48 0 rfl rfl ?_
        refine x_getsj X (i := 52) 3 fl_X12_26_13 (sdM_52 hω) (ks_52 _) rfl (j := 55) rfl dX12_sender_49 ?_
        refine x_aload_n X dX12_sender_52 0 rfl rfl ?_
        refine x_geti X (i := 52) fl_X12_13_13 (sdM_52 hω) (ks_52 _) rfl dX12_sender_53 ?_
        refine x_iload_n X dX12_sender_56 2 rfl rfl ?_
        obtain ⟨z10, hf⟩ := chk_some hf
        refine x_iast X (i := 55) (n := 5) (sdM_55 hω) (ks_55 _) z10 dX12_sender_57 ?_
        obtain ⟨h11, eh11, hf⟩ := nm_some hf
        refine x_nmh eh11 ?_
        refine x_aload_n X dX12_sender_58 0 rfl rfl ?_
        refine x_getsj X (i := 52) 4 fl_X12_29_13 (sdM_52 hω) (ks_52 _) rfl (j := 56) rfl dX12_sender_59 ?_
        refine x_aload_n X dX12_sender_62 0 rfl rfl ?_
        refine x_geti X (i := 52) fl_X12_13_13 (sdM_52 hω) (ks_52 _) rfl dX12_sender_63 ?_
        refine x_iconst X (v := 0) dX12_sender_66 (by decide) ?_
        obtain ⟨z12, hf⟩ := chk_some hf
        refine x_iast X (i := 56) (n := 5) (sdM_56 hω) (ks_56 _) z12 dX12_sender_67 ?_
        obtain ⟨h13, eh13, hf⟩ := nm_some hf
        refine x_nmh eh13 ?_
        refine x_iconst X (v := 0) dX12_sender_68 (by decide) ?_
        refine x_istore_n X [(3, .int (0 : Int32)), (0, .ref (q 52)), (1, .int p0), (2, .int p1)] dX12_sender_69 rfl (Nat.le_of_ble_eq_true rfl) rfl ?_
        refine x_lv [1, 0] rfl ?_
        exact k_X12_sender_70 hω X R _ h13 _ hf
theorem mt_X12_sender : MT yX12_sender cX12_sender 4 (some .int) "SignalBlindModel" 2 := ⟨(mT_6 5 rfl rfl), (mT_6 6 rfl rfl), (mT_1 10 rfl rfl), (mT_6 7 rfl rfl), by decide⟩

abbrev rm_X12_row : Room := { frames := 2, cells := 0, slots := 0, locals := 44 }
def f_X12_row_18 (h : hp) : Option (hp × Int32) := (some (h, (-1 : Int32)))
def f_X12_row (h : hp) (p0 : Int32) (p1 : Int32) (p2 : Int32) : Option (hp × Int32) := (bnr (f_X12_isSender h p0) fun r1 =>
 (if r1 = 0 then
 (f_X12_row_18 h)
 else
 (bnr (f_X12_in h p1 (0 : Int32) (3 : Int32)) fun r4 =>
 (if r4 = 0 then
 (f_X12_row_18 h)
 else
 (bnr (f_X12_in h p2 (0 : Int32) (9 : Int32)) fun r7 =>
 (if r7 = 0 then
 (some (h, (-2 : Int32)))
 else
 (chk p0 5
 (if (aI h 54 (p0).toNatClampNeg) = (6 : Int32) then
 (chk (((4 : Int32) * p0) + p1) 20
 (nm (aI h 57 ((((4 : Int32) * p0) + p1)).toNatClampNeg) fun v13 =>
 (chk (((4 : Int32) * p0) + p1) 20
 (nm (tI h 57 ((((4 : Int32) * p0) + p1)).toNatClampNeg p2) fun h15 =>
 (some (h15, v13))))))
 else
 (some (h, (-3 : Int32)))))))))))
set_option maxRecDepth 100000 in
set_option maxHeartbeats 4000000 in
theorem k_X12_row_18 {ω : XO} (hω : ω.2.2.2.1 = 0) {κ : XK} (X : XC ω rm_X12_row 5 κ cX12_row "SignalBlindModel") {L : List Nat} {q : Nat → Nat} {h' : hp} {r : Int32} (R : XRet ω rm_X12_row κ (some .int) L q h' (some (.int r))) : ∀ (h : hp), f_X12_row_18 h = some (h', r) → XG ω rm_X12_row 5 κ L q h 0 0 18 [] [] := by
  intro h hf
  unfold f_X12_row_18 at hf
  refine x_iconst X (v := -1) dX12_row_18 (by decide) ?_
  exact x_retSI X R hf dX12_row_19
set_option maxRecDepth 100000 in
set_option maxHeartbeats 4000000 in
theorem k_X12_row {ω : XO} (hω : ω.2.2.2.1 = 0) {L : List Nat} {q : Nat → Nat} {h h' : hp} {p0 : Int32} {p1 : Int32} {p2 : Int32} {r : Int32} (hf : f_X12_row h p0 p1 p2 = some (h', r)) : XM ω yX12_row cX12_row 5 (some .int) rm_X12_row L q h [.ref (q 52), .int p0, .int p1, .int p2] (some (.int r)) h' := by
  refine XM_intro [(0, .ref (q 52)), (1, .int p0), (2, .int p1), (3, .int p2)] "SignalBlindModel" (by decide) rfl rfl (Nat.le_of_ble_eq_true rfl) (fun κ X R => ?_)
  unfold f_X12_row at hf
  refine x_aload_n X dX12_row_0 0 rfl rfl ?_
  refine x_iload_n X dX12_row_1 1 rfl rfl ?_
  obtain ⟨r1, g2, hf⟩ := bnr_some hf
  refine c_X12_212 X hω g2 (hR := ⟨Nat.le_of_ble_eq_true rfl, Nat.le_of_ble_eq_true rfl⟩) ⟨Nat.zero_le _, Nat.zero_le _⟩ (Nat.le_of_ble_eq_true rfl) dX12_row_2 ?_
  refine x_if_eq X 18 dX12_row_5 (by decide) (fun c3 => ?_) (fun c3 => ?_)
  · replace hf := (if_pos c3).symm.trans hf
    refine x_lv [] rfl ?_
    exact k_X12_row_18 hω X R h hf
  · replace hf := (if_neg c3).symm.trans hf
    refine x_aload_n X dX12_row_8 0 rfl rfl ?_
    refine x_iload_n X dX12_row_9 2 rfl rfl ?_
    refine x_iconst X (v := 0) dX12_row_10 (by decide) ?_
    refine x_iconst X (v := 3) dX12_row_11 (by decide) ?_
    obtain ⟨r4, g5, hf⟩ := bnr_some hf
    refine c_X12_201 X hω g5 (hR := ⟨Nat.le_of_ble_eq_true rfl, Nat.le_of_ble_eq_true rfl⟩) ⟨Nat.zero_le _, Nat.zero_le _⟩ (Nat.le_of_ble_eq_true rfl) dX12_row_12 ?_
    refine x_if_ne X 20 dX12_row_15 (by decide) (fun c6 => ?_) (fun c6 => ?_)
    · replace hf := (if_pos c6).symm.trans hf
      refine x_lv [] rfl ?_
      exact k_X12_row_18 hω X R h hf
    · replace hf := (if_neg c6).symm.trans hf
      refine x_aload_n X dX12_row_20 0 rfl rfl ?_
      refine x_iload_n X dX12_row_21 3 rfl rfl ?_
      refine x_iconst X (v := 0) dX12_row_22 (by decide) ?_
      refine x_bipush X (v := 9) dX12_row_23 (by decide) ?_
      obtain ⟨r7, g8, hf⟩ := bnr_some hf
      refine c_X12_201 X hω g8 (hR := ⟨Nat.le_of_ble_eq_true rfl, Nat.le_of_ble_eq_true rfl⟩) ⟨Nat.zero_le _, Nat.zero_le _⟩ (Nat.le_of_ble_eq_true rfl) dX12_row_25 ?_
      refine x_if_ne X 34 dX12_row_28 (by decide) (fun c9 => ?_) (fun c9 => ?_)
      · replace hf := (if_pos c9).symm.trans hf
        refine x_bipush X (v := -2) dX12_row_31 (by decide) ?_
        exact x_retSI X R hf dX12_row_33
      · replace hf := (if_neg c9).symm.trans hf
        refine x_aload_n X dX12_row_34 0 rfl rfl ?_
        refine x_getsj X (i := 52) 2 fl_X12_23_13 (sdM_52 hω) (ks_52 _) rfl (j := 54) rfl dX12_row_35 ?_
        refine x_iload_n X dX12_row_38 1 rfl rfl ?_
        obtain ⟨z10, hf⟩ := chk_some hf
        refine x_iald X (i := 54) (n := 5) (sdM_54 hω) (ks_54 _) z10 dX12_row_39 ?_
        refine x_bipush X (v := 6) dX12_row_40 (by decide) ?_
        refine x_icmp_eq X 48 dX12_row_42 (by decide) (fun c11 => ?_) (fun c11 => ?_)
        · replace hf := (if_pos c11).symm.trans hf
          refine x_aload_n X dX12_row_48 0 rfl rfl ?_
          refine x_getsj X (i := 52) 5 fl_X12_32_13 (sdM_52 hω) (ks_52 _) rfl (j := 57) rfl dX12_row_49 ?_
          refine x_iconst X (v := 4) dX12_row_52 (by decide) ?_
          refine x_iload_n X dX12_row_53 1 rfl rfl ?_
          refine x_imul X dX12_row_54 ?_
          refine x_iload_n X dX12_row_55 2 rfl rfl ?_
          refine x_iadd X dX12_row_56 ?_
          obtain ⟨z12, hf⟩ := chk_some hf
          refine x_iald X (i := 57) (n := 20) (sdM_57 hω) (ks_57 _) z12 dX12_row_57 ?_
          obtain ⟨v13, ev13, hf⟩ := nm_some hf
          refine x_nmI ev13 ?_
          refine x_istore X [(4, .int v13), (0, .ref (q 52)), (1, .int p0), (2, .int p1), (3, .int p2)] dX12_row_58 (Nat.le_of_ble_eq_true rfl) rfl ?_
          refine x_aload_n X dX12_row_60 1 rfl rfl ?_
          refine x_getsj X (i := 52) 5 fl_X12_32_13 (sdM_52 hω) (ks_52 _) rfl (j := 57) rfl dX12_row_61 ?_
          refine x_iconst X (v := 4) dX12_row_64 (by decide) ?_
          refine x_iload_n X dX12_row_65 2 rfl rfl ?_
          refine x_imul X dX12_row_66 ?_
          refine x_iload_n X dX12_row_67 3 rfl rfl ?_
          refine x_iadd X dX12_row_68 ?_
          refine x_iload_n X dX12_row_69 4 rfl rfl ?_
          obtain ⟨z14, hf⟩ := chk_some hf
          refine x_iast X (i := 57) (n := 20) (sdM_57 hω) (ks_57 _) z14 dX12_row_70 ?_
          obtain ⟨h15, eh15, hf⟩ := nm_some hf
          refine x_nmh eh15 ?_
          refine x_iload X dX12_row_71 0 rfl ?_
          exact x_retSI X R hf dX12_row_73
        · replace hf := (if_neg c11).symm.trans hf
          refine x_bipush X (v := -3) dX12_row_45 (by decide) ?_
          exact x_retSI X R hf dX12_row_47
theorem mt_X12_row : MT yX12_row cX12_row 5 (some .int) "SignalBlindModel" 3 := ⟨(mT_6 9 rfl rfl), (mT_6 10 rfl rfl), (mT_1 10 rfl rfl), (mT_6 11 rfl rfl), by decide⟩

abbrev rm_X12_feed : Room := { frames := 1, cells := 0, slots := 0, locals := 23 }
def f_X12_feed (h : hp) (p0 : Int32) : Option (hp × Int32) := (bnr (f_X12_in h p0 (0 : Int32) (127 : Int32)) fun r1 =>
 (if r1 = 0 then
 (some (h, (-2 : Int32)))
 else
 (if (hI h 52 10) = (100 : Int32) then
 (some (h, (-4 : Int32)))
 else
 (chk (hI h 52 10) 100
 (nm (tI h 58 ((hI h 52 10)).toNatClampNeg p0) fun h6 =>
 (nm (sI h6 52 10 ((hI h6 52 10) + (1 : Int32))) fun h7 =>
 (some (h7, (hI h7 52 10)))))))))
set_option maxRecDepth 100000 in
set_option maxHeartbeats 4000000 in
theorem k_X12_feed {ω : XO} (hω : ω.2.2.2.1 = 0) {L : List Nat} {q : Nat → Nat} {h h' : hp} {p0 : Int32} {r : Int32} (hf : f_X12_feed h p0 = some (h', r)) : XM ω yX12_feed cX12_feed 2 (some .int) rm_X12_feed L q h [.ref (q 52), .int p0] (some (.int r)) h' := by
  refine XM_intro [(0, .ref (q 52)), (1, .int p0)] "SignalBlindModel" (by decide) rfl rfl (Nat.le_of_ble_eq_true rfl) (fun κ X R => ?_)
  unfold f_X12_feed at hf
  refine x_aload_n X dX12_feed_0 0 rfl rfl ?_
  refine x_iload_n X dX12_feed_1 1 rfl rfl ?_
  refine x_iconst X (v := 0) dX12_feed_2 (by decide) ?_
  refine x_bipush X (v := 127) dX12_feed_3 (by decide) ?_
  obtain ⟨r1, g2, hf⟩ := bnr_some hf
  refine c_X12_201 X hω g2 (hR := ⟨Nat.le_of_ble_eq_true rfl, Nat.le_of_ble_eq_true rfl⟩) ⟨Nat.zero_le _, Nat.zero_le _⟩ (Nat.le_of_ble_eq_true rfl) dX12_feed_5 ?_
  refine x_if_ne X 14 dX12_feed_8 (by decide) (fun c3 => ?_) (fun c3 => ?_)
  · replace hf := (if_pos c3).symm.trans hf
    refine x_bipush X (v := -2) dX12_feed_11 (by decide) ?_
    exact x_retSI X R hf dX12_feed_13
  · replace hf := (if_neg c3).symm.trans hf
    refine x_aload_n X dX12_feed_14 0 rfl rfl ?_
    refine x_geti X (i := 52) fl_X12_41_13 (sdM_52 hω) (ks_52 _) rfl dX12_feed_15 ?_
    refine x_bipush X (v := 100) dX12_feed_18 (by decide) ?_
    refine x_icmp_ne X 26 dX12_feed_20 (by decide) (fun c4 => ?_) (fun c4 => ?_)
    · replace hf := (if_pos c4).symm.trans hf
      refine x_bipush X (v := -4) dX12_feed_23 (by decide) ?_
      exact x_retSI X R hf dX12_feed_25
    · replace hf := (if_neg c4).symm.trans hf
      refine x_aload_n X dX12_feed_26 0 rfl rfl ?_
      refine x_getsj X (i := 52) 6 fl_X12_50_13 (sdM_52 hω) (ks_52 _) rfl (j := 58) rfl dX12_feed_27 ?_
      refine x_aload_n X dX12_feed_30 0 rfl rfl ?_
      refine x_geti X (i := 52) fl_X12_41_13 (sdM_52 hω) (ks_52 _) rfl dX12_feed_31 ?_
      refine x_iload_n X dX12_feed_34 1 rfl rfl ?_
      obtain ⟨z5, hf⟩ := chk_some hf
      refine x_iast X (i := 58) (n := 100) (sdM_58 hω) (ks_58 _) z5 dX12_feed_35 ?_
      obtain ⟨h6, eh6, hf⟩ := nm_some hf
      refine x_nmh eh6 ?_
      refine x_aload_n X dX12_feed_36 0 rfl rfl ?_
      refine x_dup X dX12_feed_37 rfl ?_
      refine x_geti X (i := 52) fl_X12_41_13 (sdM_52 hω) (ks_52 _) rfl dX12_feed_38 ?_
      refine x_iconst X (v := 1) dX12_feed_41 (by decide) ?_
      refine x_iadd X dX12_feed_42 ?_
      refine x_puti X (i := 52) fl_X12_41_13 fw_13 (sdM_52 hω) (ks_52 _) rfl rfl rfl rfl dX12_feed_43 ?_
      obtain ⟨h7, eh7, hf⟩ := nm_some hf
      refine x_nmh eh7 ?_
      refine x_aload_n X dX12_feed_46 0 rfl rfl ?_
      refine x_geti X (i := 52) fl_X12_41_13 (sdM_52 hω) (ks_52 _) rfl dX12_feed_47 ?_
      exact x_retSI X R hf dX12_feed_50
theorem mt_X12_feed : MT yX12_feed cX12_feed 2 (some .int) "SignalBlindModel" 1 := ⟨(mT_6 17 rfl rfl), (mT_6 18 rfl rfl), (mT_1 10 rfl rfl), (mT_6 19 rfl rfl), by decide⟩

abbrev rm_X12_next : Room := { frames := 0, cells := 0, slots := 0, locals := 0 }
def f_X12_next_24 (h : hp) (a3 : Int32) : Option Int32 := (some a3)
def f_X12_next (h : hp) : Option Int32 := (if (hI h 52 11) < (hI h 52 10) then
 (chk (hI h 52 11) 100
 (f_X12_next_24 h (aI h 58 ((hI h 52 11)).toNatClampNeg)))
 else
 (f_X12_next_24 h (-1 : Int32)))
set_option maxRecDepth 100000 in
set_option maxHeartbeats 4000000 in
theorem k_X12_next_24 {ω : XO} (hω : ω.2.2.2.1 = 0) {κ : XK} (X : XC ω rm_X12_next 1 κ cX12_next "SignalBlindModel") {L : List Nat} {q : Nat → Nat} {h : hp} {r : Int32} (R : XRet ω rm_X12_next κ (some .int) L q h (some (.int r))) : ∀ (a3 : Int32), f_X12_next_24 h a3 = some r → XG ω rm_X12_next 1 κ L q h 0 0 24 [] [.int a3] := by
  intro a3 hf
  unfold f_X12_next_24 at hf
  exact x_retRI X R hf dX12_next_24
set_option maxRecDepth 100000 in
set_option maxHeartbeats 4000000 in
theorem k_X12_next {ω : XO} (hω : ω.2.2.2.1 = 0) {L : List Nat} {q : Nat → Nat} {h : hp}  {r : Int32} (hf : f_X12_next h = some r) : XM ω yX12_next cX12_next 1 (some .int) rm_X12_next L q h [.ref (q 52)] (some (.int r)) h := by
  refine XM_intro [(0, .ref (q 52))] "SignalBlindModel" (by decide) rfl rfl (Nat.le_of_ble_eq_true rfl) (fun κ X R => ?_)
  unfold f_X12_next at hf
  refine x_aload_n X dX12_next_0 0 rfl rfl ?_
  refine x_geti X (i := 52) fl_X12_44_13 (sdM_52 hω) (ks_52 _) rfl dX12_next_1 ?_
  refine x_aload_n X dX12_next_4 0 rfl rfl ?_
  refine x_geti X (i := 52) fl_X12_41_13 (sdM_52 hω) (ks_52 _) rfl dX12_next_5 ?_
  refine x_icmp_ge X 23 dX12_next_8 (by decide) (fun c1 => ?_) (fun c1 => ?_)
  · replace hf := (if_pos c1).symm.trans hf
    refine x_aload_n X dX12_next_11 0 rfl rfl ?_
    refine x_getsj X (i := 52) 6 fl_X12_50_13 (sdM_52 hω) (ks_52 _) rfl (j := 58) rfl dX12_next_12 ?_
    refine x_aload_n X dX12_next_15 0 rfl rfl ?_
    refine x_geti X (i := 52) fl_X12_44_13 (sdM_52 hω) (ks_52 _) rfl dX12_next_16 ?_
    obtain ⟨z2, hf⟩ := chk_some hf
    refine x_iald X (i := 58) (n := 100) (sdM_58 hω) (ks_58 _) z2 dX12_next_19 ?_
    refine x_goto X 24 dX12_next_20 (by decide) ?_
    refine x_lv [] rfl ?_
    exact k_X12_next_24 hω X R _ hf
  · replace hf := (if_neg c1).symm.trans hf
    refine x_iconst X (v := -1) dX12_next_23 (by decide) ?_
    refine x_lv [] rfl ?_
    exact k_X12_next_24 hω X R _ hf
theorem mt_X12_next : MT yX12_next cX12_next 1 (some .int) "SignalBlindModel" 0 := ⟨(mT_6 38 rfl rfl), (mTp (q := (yX12_next, 61)) (by decide +kernel) rfl), (mT_1 10 rfl rfl), (mT_6 39 rfl rfl), by decide⟩
theorem c_X12_215 {ω : XO} {rm : Room} {nL : Nat} {κ : XK} {cc : ByteArray} (X : XC ω rm nL κ cc "SignalBlindModel") (hω : ω.2.2.2.1 = 0) {L : List Nat} {q : Nat → Nat} {h : hp} {cells slots pc : Nat} {lv : List (Nat × Value)} {rest : List Value}  {r : Int32} (hf : f_X12_next h = some r) (hR : rm_X12_next.frames + 1 ≤ rm.frames ∧ 8 + (1 + 11) + rm_X12_next.locals ≤ rm.locals) (hcs : cells ≤ rm.cells ∧ slots ≤ rm.slots) (hroom : (rest.map fun v => v.category).sum ≤ 8) (hd : decode cc pc = .ok (.invokevirtual 215, 3)) (kk : XG ω rm nL κ L q h cells slots (pc + 3) lv (.int r :: rest)) : XG ω rm nL κ L q h cells slots pc lv (.ref (q 52) :: rest) := x_callV X [] rest (k_X12_next hω hf) mt_X12_next (mT_6 36 rfl rfl) hR ⟨rfl, rfl⟩ hcs (sdM_52 hω) (ks_52 _) (by decide) rfl rfl hroom hd kk

abbrev rm_X12_takes : Room := { frames := 1, cells := 0, slots := 0, locals := 20 }
def f_X12_takes (h : hp) (p0 : Int32) : Option (hp × Int32) := (bnr (f_X12_next h) fun r1 =>
 (if r1 = p0 then
 (nm (sI h 52 11 ((hI h 52 11) + (1 : Int32))) fun h4 =>
 (some (h4, (1 : Int32))))
 else
 (some (h, (0 : Int32)))))
set_option maxRecDepth 100000 in
set_option maxHeartbeats 4000000 in
theorem k_X12_takes {ω : XO} (hω : ω.2.2.2.1 = 0) {L : List Nat} {q : Nat → Nat} {h h' : hp} {p0 : Int32} {r : Int32} (hf : f_X12_takes h p0 = some (h', r)) : XM ω yX12_takes cX12_takes 2 (some .boolean) rm_X12_takes L q h [.ref (q 52), .int p0] (some (.int r)) h' := by
  refine XM_intro [(0, .ref (q 52)), (1, .int p0)] "SignalBlindModel" (by decide) rfl rfl (Nat.le_of_ble_eq_true rfl) (fun κ X R => ?_)
  unfold f_X12_takes at hf
  refine x_aload_n X dX12_takes_0 0 rfl rfl ?_
  obtain ⟨r1, g2, hf⟩ := bnr_some hf
  refine c_X12_215 X hω g2 (hR := ⟨Nat.le_of_ble_eq_true rfl, Nat.le_of_ble_eq_true rfl⟩) ⟨Nat.zero_le _, Nat.zero_le _⟩ (Nat.le_of_ble_eq_true rfl) dX12_takes_1 ?_
  refine x_iload_n X dX12_takes_4 1 rfl rfl ?_
  refine x_icmp_eq X 10 dX12_takes_5 (by decide) (fun c3 => ?_) (fun c3 => ?_)
  · replace hf := (if_pos c3).symm.trans hf
    refine x_aload_n X dX12_takes_10 0 rfl rfl ?_
    refine x_dup X dX12_takes_11 rfl ?_
    refine x_geti X (i := 52) fl_X12_44_13 (sdM_52 hω) (ks_52 _) rfl dX12_takes_12 ?_
    refine x_iconst X (v := 1) dX12_takes_15 (by decide) ?_
    refine x_iadd X dX12_takes_16 ?_
    refine x_puti X (i := 52) fl_X12_44_13 fw_13 (sdM_52 hω) (ks_52 _) rfl rfl rfl rfl dX12_takes_17 ?_
    obtain ⟨h4, eh4, hf⟩ := nm_some hf
    refine x_nmh eh4 ?_
    refine x_iconst X (v := 1) dX12_takes_20 (by decide) ?_
    exact x_retSZ X R (by decide) hf dX12_takes_21
  · replace hf := (if_neg c3).symm.trans hf
    refine x_iconst X (v := 0) dX12_takes_8 (by decide) ?_
    exact x_retSZ X R (by decide) hf dX12_takes_9
theorem mt_X12_takes : MT yX12_takes cX12_takes 2 (some .boolean) "SignalBlindModel" 1 := ⟨(mT_6 46 rfl rfl), (mTp (q := (yX12_takes, 61)) (by decide +kernel) rfl), (mT_1 10 rfl rfl), (mT_6 47 rfl rfl), by decide⟩
theorem c_X12_219 {ω : XO} {rm : Room} {nL : Nat} {κ : XK} {cc : ByteArray} (X : XC ω rm nL κ cc "SignalBlindModel") (hω : ω.2.2.2.1 = 0) {L : List Nat} {q : Nat → Nat} {h h' : hp} {cells slots pc : Nat} {lv : List (Nat × Value)} {rest : List Value} {p0 : Int32} {r : Int32} (hf : f_X12_takes h p0 = some (h', r)) (hR : rm_X12_takes.frames + 1 ≤ rm.frames ∧ 8 + (2 + 11) + rm_X12_takes.locals ≤ rm.locals) (hcs : cells ≤ rm.cells ∧ slots ≤ rm.slots) (hroom : (rest.map fun v => v.category).sum ≤ 8) (hd : decode cc pc = .ok (.invokevirtual 219, 3)) (kk : XG ω rm nL κ L q h' cells slots (pc + 3) lv (.int r :: rest)) : XG ω rm nL κ L q h cells slots pc lv (.int p0 :: .ref (q 52) :: rest) := x_callV X [.int p0] rest (k_X12_takes hω hf) mt_X12_takes (mT_6 44 rfl rfl) hR ⟨rfl, rfl⟩ hcs (sdM_52 hω) (ks_52 _) (by decide) rfl rfl hroom hd kk

abbrev rm_X12_takesWord : Room := { frames := 2, cells := 0, slots := 0, locals := 41 }
def f_X12_takesWord_2 : Nat → hp → Int32 → Int32 → Int32 → Option (hp × Int32)
  | 0, _, _, _, _ => none
  | n + 1, h, a1, a2, a3 => (if a3 < a2 then
 (chk (a1 + a3) 16
 (bnd (f_X12_takes h (aI h 66 ((a1 + a3)).toNatClampNeg)) fun h6 r7 =>
 (if r7 = 0 then
 (some (h6, (0 : Int32)))
 else
 (nm (a3 + (1 : Int32)) fun v10 =>
 ((f_X12_takesWord_2 n) h6 a1 a2 v10)))))
 else
 (bnd (f_X12_takes h (32 : Int32)) fun h11 r12 =>
 (ckZ r12
 (some (h11, r12)))))
def f_X12_takesWord (h : hp) (p0 : Int32) (p1 : Int32) : Option (hp × Int32) := (f_X12_takesWord_2 2000 h p0 p1 (0 : Int32))
set_option maxRecDepth 100000 in
set_option maxHeartbeats 4000000 in
theorem k_X12_takesWord_2 {ω : XO} (hω : ω.2.2.2.1 = 0) {κ : XK} (X : XC ω rm_X12_takesWord 4 κ cX12_takesWord "SignalBlindModel") {L : List Nat} {q : Nat → Nat} {h' : hp} {r : Int32} (R : XRet ω rm_X12_takesWord κ (some .boolean) L q h' (some (.int r))) : ∀ (n : Nat) (h : hp) (a1 : Int32) (a2 : Int32) (a3 : Int32), f_X12_takesWord_2 n h a1 a2 a3 = some (h', r) → XG ω rm_X12_takesWord 4 κ L q h 0 0 2 [(0, .ref (q 52)), (1, .int a1), (2, .int a2), (3, .int a3)] [] := by
  intro n
  induction n with
  | zero =>
    intro h a1 a2 a3 hf
    have hf : (none : Option (hp × Int32)) = some (h', r) := hf
    cases hf
  | succ n ih =>
    intro h a1 a2 a3 hf
    rw [f_X12_takesWord_2] at hf
    refine x_iload_n X dX12_takesWord_2 3 rfl rfl ?_
    refine x_iload_n X dX12_takesWord_3 2 rfl rfl ?_
    refine x_icmp_ge X 30 dX12_takesWord_4 (by decide) (fun c4 => ?_) (fun c4 => ?_)
    · replace hf := (if_pos c4).symm.trans hf
      refine x_aload_n X dX12_takesWord_7 0 rfl rfl ?_
      refine x_aload_n X dX12_takesWord_8 0 rfl rfl ?_
      refine x_getsj X (i := 52) 14 fl_X12_83_13 (sdM_52 hω) (ks_52 _) rfl (j := 66) rfl dX12_takesWord_9 ?_
      refine x_iload_n X dX12_takesWord_12 1 rfl rfl ?_
      refine x_iload_n X dX12_takesWord_13 3 rfl rfl ?_
      refine x_iadd X dX12_takesWord_14 ?_
      obtain ⟨z5, hf⟩ := chk_some hf
      refine x_iald X (i := 66) (n := 16) (sdM_66 hω) (ks_66 _) z5 dX12_takesWord_15 ?_
      obtain ⟨h6, r7, g8, hf⟩ := bnd_some hf
      refine c_X12_219 X hω g8 (hR := ⟨Nat.le_of_ble_eq_true rfl, Nat.le_of_ble_eq_true rfl⟩) ⟨Nat.zero_le _, Nat.zero_le _⟩ (Nat.le_of_ble_eq_true rfl) dX12_takesWord_16 ?_
      refine x_if_ne X 24 dX12_takesWord_19 (by decide) (fun c9 => ?_) (fun c9 => ?_)
      · replace hf := (if_pos c9).symm.trans hf
        refine x_iconst X (v := 0) dX12_takesWord_22 (by decide) ?_
        exact x_retSZ X R (by decide) hf dX12_takesWord_23
      · replace hf := (if_neg c9).symm.trans hf
        obtain ⟨v10, ev10, hf⟩ := nm_some hf
        refine x_iincN X (v := 1) ev10 [(3, .int v10), (0, .ref (q 52)), (1, .int a1), (2, .int a2)] dX12_takesWord_24 3 rfl (by decide) (Nat.le_of_ble_eq_true rfl) rfl ?_
        refine x_goto X 2 dX12_takesWord_27 (by decide) ?_
        refine x_lv [1, 2, 3, 0] rfl ?_
        exact ih h6 _ _ _ hf
    · replace hf := (if_neg c4).symm.trans hf
      refine x_aload_n X dX12_takesWord_30 0 rfl rfl ?_
      refine x_bipush X (v := 32) dX12_takesWord_31 (by decide) ?_
      obtain ⟨h11, r12, g13, hf⟩ := bnd_some hf
      refine c_X12_219 X hω g13 (hR := ⟨Nat.le_of_ble_eq_true rfl, Nat.le_of_ble_eq_true rfl⟩) ⟨Nat.zero_le _, Nat.zero_le _⟩ (Nat.le_of_ble_eq_true rfl) dX12_takesWord_33 ?_
      obtain ⟨z14, hf⟩ := ckZ_some hf
      exact x_retSZ X R z14 hf dX12_takesWord_36
set_option maxRecDepth 100000 in
set_option maxHeartbeats 4000000 in
theorem k_X12_takesWord {ω : XO} (hω : ω.2.2.2.1 = 0) {L : List Nat} {q : Nat → Nat} {h h' : hp} {p0 : Int32} {p1 : Int32} {r : Int32} (hf : f_X12_takesWord h p0 p1 = some (h', r)) : XM ω yX12_takesWord cX12_takesWord 4 (some .boolean) rm_X12_takesWord L q h [.ref (q 52), .int p0, .int p1] (some (.int r)) h' := by
  refine XM_intro [(0, .ref (q 52)), (1, .int p0), (2, .int p1)] "SignalBlindModel" (by decide) rfl rfl (Nat.le_of_ble_eq_true rfl) (fun κ X R => ?_)
  unfold f_X12_takesWord at hf
  refine x_iconst X (v := 0) dX12_takesWord_0 (by decide) ?_
  refine x_istore_n X [(3, .int (0 : Int32)), (0, .ref (q 52)), (1, .int p0), (2, .int p1)] dX12_takesWord_1 rfl (Nat.le_of_ble_eq_true rfl) rfl ?_
  refine x_lv [1, 2, 3, 0] rfl ?_
  exact k_X12_takesWord_2 hω X R _ h _ _ _ hf
theorem mt_X12_takesWord : MT yX12_takesWord cX12_takesWord 4 (some .boolean) "SignalBlindModel" 2 := ⟨(mT_6 42 rfl rfl), (mTp (q := (yX12_takesWord, 61)) (by decide +kernel) rfl), (mT_1 10 rfl rfl), (mT_6 43 rfl rfl), by decide⟩
theorem c_X12_246 {ω : XO} {rm : Room} {nL : Nat} {κ : XK} {cc : ByteArray} (X : XC ω rm nL κ cc "SignalBlindModel") (hω : ω.2.2.2.1 = 0) {L : List Nat} {q : Nat → Nat} {h h' : hp} {cells slots pc : Nat} {lv : List (Nat × Value)} {rest : List Value} {p0 : Int32} {p1 : Int32} {r : Int32} (hf : f_X12_takesWord h p0 p1 = some (h', r)) (hR : rm_X12_takesWord.frames + 1 ≤ rm.frames ∧ 8 + (4 + 11) + rm_X12_takesWord.locals ≤ rm.locals) (hcs : cells ≤ rm.cells ∧ slots ≤ rm.slots) (hroom : (rest.map fun v => v.category).sum ≤ 8) (hd : decode cc pc = .ok (.invokevirtual 246, 3)) (kk : XG ω rm nL κ L q h' cells slots (pc + 3) lv (.int r :: rest)) : XG ω rm nL κ L q h cells slots pc lv (.int p1 :: .int p0 :: .ref (q 52) :: rest) := x_callV X [.int p0, .int p1] rest (k_X12_takesWord hω hf) mt_X12_takesWord (mT_6 40 rfl rfl) hR ⟨rfl, rfl⟩ hcs (sdM_52 hω) (ks_52 _) (by decide) rfl rfl hroom hd kk

abbrev rm_X12_isDigit : Room := { frames := 1, cells := 0, slots := 0, locals := 23 }
def f_X12_isDigit (h : hp) : Option Int32 := (bnr (f_X12_next h) fun r1 =>
 (bnr (f_X12_in h r1 (48 : Int32) (57 : Int32)) fun r3 =>
 (ckZ r3
 (some r3))))
set_option maxRecDepth 100000 in
set_option maxHeartbeats 4000000 in
theorem k_X12_isDigit {ω : XO} (hω : ω.2.2.2.1 = 0) {L : List Nat} {q : Nat → Nat} {h : hp}  {r : Int32} (hf : f_X12_isDigit h = some r) : XM ω yX12_isDigit cX12_isDigit 1 (some .boolean) rm_X12_isDigit L q h [.ref (q 52)] (some (.int r)) h := by
  refine XM_intro [(0, .ref (q 52))] "SignalBlindModel" (by decide) rfl rfl (Nat.le_of_ble_eq_true rfl) (fun κ X R => ?_)
  unfold f_X12_isDigit at hf
  refine x_aload_n X dX12_isDigit_0 0 rfl rfl ?_
  refine x_aload_n X dX12_isDigit_1 0 rfl rfl ?_
  obtain ⟨r1, g2, hf⟩ := bnr_some hf
  refine c_X12_215 X hω g2 (hR := ⟨Nat.le_of_ble_eq_true rfl, Nat.le_of_ble_eq_true rfl⟩) ⟨Nat.zero_le _, Nat.zero_le _⟩ (Nat.le_of_ble_eq_true rfl) dX12_isDigit_2 ?_
  refine x_bipush X (v := 48) dX12_isDigit_5 (by decide) ?_
  refine x_bipush X (v := 57) dX12_isDigit_7 (by decide) ?_
  obtain ⟨r3, g4, hf⟩ := bnr_some hf
  refine c_X12_201 X hω g4 (hR := ⟨Nat.le_of_ble_eq_true rfl, Nat.le_of_ble_eq_true rfl⟩) ⟨Nat.zero_le _, Nat.zero_le _⟩ (Nat.le_of_ble_eq_true rfl) dX12_isDigit_9 ?_
  obtain ⟨z5, hf⟩ := ckZ_some hf
  exact x_retRZ X R z5 hf dX12_isDigit_12
theorem mt_X12_isDigit : MT yX12_isDigit cX12_isDigit 1 (some .boolean) "SignalBlindModel" 0 := ⟨(mT_6 54 rfl rfl), (mTp (q := (yX12_isDigit, 61)) (by decide +kernel) rfl), (mT_1 10 rfl rfl), (mT_6 55 rfl rfl), by decide⟩
theorem c_X12_222 {ω : XO} {rm : Room} {nL : Nat} {κ : XK} {cc : ByteArray} (X : XC ω rm nL κ cc "SignalBlindModel") (hω : ω.2.2.2.1 = 0) {L : List Nat} {q : Nat → Nat} {h : hp} {cells slots pc : Nat} {lv : List (Nat × Value)} {rest : List Value}  {r : Int32} (hf : f_X12_isDigit h = some r) (hR : rm_X12_isDigit.frames + 1 ≤ rm.frames ∧ 8 + (1 + 11) + rm_X12_isDigit.locals ≤ rm.locals) (hcs : cells ≤ rm.cells ∧ slots ≤ rm.slots) (hroom : (rest.map fun v => v.category).sum ≤ 8) (hd : decode cc pc = .ok (.invokevirtual 222, 3)) (kk : XG ω rm nL κ L q h cells slots (pc + 3) lv (.int r :: rest)) : XG ω rm nL κ L q h cells slots pc lv (.ref (q 52) :: rest) := x_callV X [] rest (k_X12_isDigit hω hf) mt_X12_isDigit (mT_6 52 rfl rfl) hR ⟨rfl, rfl⟩ hcs (sdM_52 hω) (ks_52 _) (by decide) rfl rfl hroom hd kk

abbrev rm_X12_takesNumber : Room := { frames := 2, cells := 0, slots := 0, locals := 43 }
def f_X12_takesNumber_63 (h : hp) : Option (hp × Int32) := (some (h, (1 : Int32)))
def f_X12_takesNumber_16 : Nat → hp → Int32 → Option (hp × Int32)
  | 0, _, _ => none
  | n + 1, h, a5 => (if a5 < (2 : Int32) then
 (bnr (f_X12_isDigit h) fun r7 =>
 (if r7 = 0 then
 (f_X12_takesNumber_63 h)
 else
 (bnr (f_X12_next h) fun r10 =>
 (nm (sI h 52 12 ((((10 : Int32) * (hI h 52 12)) + r10) - (48 : Int32))) fun h12 =>
 (nm (sI h12 52 11 ((hI h12 52 11) + (1 : Int32))) fun h13 =>
 (nm (a5 + (1 : Int32)) fun v14 =>
 ((f_X12_takesNumber_16 n) h13 v14)))))))
 else
 (f_X12_takesNumber_63 h))
def f_X12_takesNumber (h : hp) : Option (hp × Int32) := (bnr (f_X12_isDigit h) fun r1 =>
 (if r1 = 0 then
 (some (h, (0 : Int32)))
 else
 (nm (sI h 52 12 (0 : Int32)) fun h4 =>
 (f_X12_takesNumber_16 2000 h4 (0 : Int32)))))
set_option maxRecDepth 100000 in
set_option maxHeartbeats 4000000 in
theorem k_X12_takesNumber_63 {ω : XO} (hω : ω.2.2.2.1 = 0) {κ : XK} (X : XC ω rm_X12_takesNumber 2 κ cX12_takesNumber "SignalBlindModel") {L : List Nat} {q : Nat → Nat} {h' : hp} {r : Int32} (R : XRet ω rm_X12_takesNumber κ (some .boolean) L q h' (some (.int r))) : ∀ (h : hp), f_X12_takesNumber_63 h = some (h', r) → XG ω rm_X12_takesNumber 2 κ L q h 0 0 63 [] [] := by
  intro h hf
  unfold f_X12_takesNumber_63 at hf
  refine x_iconst X (v := 1) dX12_takesNumber_63 (by decide) ?_
  exact x_retSZ X R (by decide) hf dX12_takesNumber_64
set_option maxRecDepth 100000 in
set_option maxHeartbeats 4000000 in
theorem k_X12_takesNumber_16 {ω : XO} (hω : ω.2.2.2.1 = 0) {κ : XK} (X : XC ω rm_X12_takesNumber 2 κ cX12_takesNumber "SignalBlindModel") {L : List Nat} {q : Nat → Nat} {h' : hp} {r : Int32} (R : XRet ω rm_X12_takesNumber κ (some .boolean) L q h' (some (.int r))) : ∀ (n : Nat) (h : hp) (a5 : Int32), f_X12_takesNumber_16 n h a5 = some (h', r) → XG ω rm_X12_takesNumber 2 κ L q h 0 0 16 [(0, .ref (q 52)), (1, .int a5)] [] := by
  intro n
  induction n with
  | zero =>
    intro h a5 hf
    have hf : (none : Option (hp × Int32)) = some (h', r) := hf
    cases hf
  | succ n ih =>
    intro h a5 hf
    rw [f_X12_takesNumber_16] at hf
    refine x_iload_n X dX12_takesNumber_16 1 rfl rfl ?_
    refine x_iconst X (v := 2) dX12_takesNumber_17 (by decide) ?_
    refine x_icmp_ge X 63 dX12_takesNumber_18 (by decide) (fun c6 => ?_) (fun c6 => ?_)
    · replace hf := (if_pos c6).symm.trans hf
      refine x_aload_n X dX12_takesNumber_21 0 rfl rfl ?_
      obtain ⟨r7, g8, hf⟩ := bnr_some hf
      refine c_X12_222 X hω g8 (hR := ⟨Nat.le_of_ble_eq_true rfl, Nat.le_of_ble_eq_true rfl⟩) ⟨Nat.zero_le _, Nat.zero_le _⟩ (Nat.le_of_ble_eq_true rfl) dX12_takesNumber_22 ?_
      refine x_if_eq X 63 dX12_takesNumber_25 (by decide) (fun c9 => ?_) (fun c9 => ?_)
      · replace hf := (if_pos c9).symm.trans hf
        refine x_lv [] rfl ?_
        exact k_X12_takesNumber_63 hω X R h hf
      · replace hf := (if_neg c9).symm.trans hf
        refine x_aload_n X dX12_takesNumber_28 0 rfl rfl ?_
        refine x_bipush X (v := 10) dX12_takesNumber_29 (by decide) ?_
        refine x_aload_n X dX12_takesNumber_31 0 rfl rfl ?_
        refine x_geti X (i := 52) fl_X12_47_13 (sdM_52 hω) (ks_52 _) rfl dX12_takesNumber_32 ?_
        refine x_imul X dX12_takesNumber_35 ?_
        refine x_aload_n X dX12_takesNumber_36 0 rfl rfl ?_
        obtain ⟨r10, g11, hf⟩ := bnr_some hf
        refine c_X12_215 X hω g11 (hR := ⟨Nat.le_of_ble_eq_true rfl, Nat.le_of_ble_eq_true rfl⟩) ⟨Nat.zero_le _, Nat.zero_le _⟩ (Nat.le_of_ble_eq_true rfl) dX12_takesNumber_37 ?_
        refine x_iadd X dX12_takesNumber_40 ?_
        refine x_bipush X (v := 48) dX12_takesNumber_41 (by decide) ?_
        refine x_isub X dX12_takesNumber_43 ?_
        refine x_puti X (i := 52) fl_X12_47_13 fw_13 (sdM_52 hω) (ks_52 _) rfl rfl rfl rfl dX12_takesNumber_44 ?_
        obtain ⟨h12, eh12, hf⟩ := nm_some hf
        refine x_nmh eh12 ?_
        refine x_aload_n X dX12_takesNumber_47 0 rfl rfl ?_
        refine x_dup X dX12_takesNumber_48 rfl ?_
        refine x_geti X (i := 52) fl_X12_44_13 (sdM_52 hω) (ks_52 _) rfl dX12_takesNumber_49 ?_
        refine x_iconst X (v := 1) dX12_takesNumber_52 (by decide) ?_
        refine x_iadd X dX12_takesNumber_53 ?_
        refine x_puti X (i := 52) fl_X12_44_13 fw_13 (sdM_52 hω) (ks_52 _) rfl rfl rfl rfl dX12_takesNumber_54 ?_
        obtain ⟨h13, eh13, hf⟩ := nm_some hf
        refine x_nmh eh13 ?_
        obtain ⟨v14, ev14, hf⟩ := nm_some hf
        refine x_iincN X (v := 1) ev14 [(1, .int v14), (0, .ref (q 52))] dX12_takesNumber_57 1 rfl (by decide) (Nat.le_of_ble_eq_true rfl) rfl ?_
        refine x_goto X 16 dX12_takesNumber_60 (by decide) ?_
        refine x_lv [1, 0] rfl ?_
        exact ih h13 _ hf
    · replace hf := (if_neg c6).symm.trans hf
      refine x_lv [] rfl ?_
      exact k_X12_takesNumber_63 hω X R h hf
set_option maxRecDepth 100000 in
set_option maxHeartbeats 4000000 in
theorem k_X12_takesNumber {ω : XO} (hω : ω.2.2.2.1 = 0) {L : List Nat} {q : Nat → Nat} {h h' : hp}  {r : Int32} (hf : f_X12_takesNumber h = some (h', r)) : XM ω yX12_takesNumber cX12_takesNumber 2 (some .boolean) rm_X12_takesNumber L q h [.ref (q 52)] (some (.int r)) h' := by
  refine XM_intro [(0, .ref (q 52))] "SignalBlindModel" (by decide) rfl rfl (Nat.le_of_ble_eq_true rfl) (fun κ X R => ?_)
  unfold f_X12_takesNumber at hf
  refine x_aload_n X dX12_takesNumber_0 0 rfl rfl ?_
  obtain ⟨r1, g2, hf⟩ := bnr_some hf
  refine c_X12_222 X hω g2 (hR := ⟨Nat.le_of_ble_eq_true rfl, Nat.le_of_ble_eq_true rfl⟩) ⟨Nat.zero_le _, Nat.zero_le _⟩ (Nat.le_of_ble_eq_true rfl) dX12_takesNumber_1 ?_
  refine x_if_ne X 9 dX12_takesNumber_4 (by decide) (fun c3 => ?_) (fun c3 => ?_)
  · replace hf := (if_pos c3).symm.trans hf
    refine x_iconst X (v := 0) dX12_takesNumber_7 (by decide) ?_
    exact x_retSZ X R (by decide) hf dX12_takesNumber_8
  · replace hf := (if_neg c3).symm.trans hf
    refine x_aload_n X dX12_takesNumber_9 0 rfl rfl ?_
    refine x_iconst X (v := 0) dX12_takesNumber_10 (by decide) ?_
    refine x_puti X (i := 52) fl_X12_47_13 fw_13 (sdM_52 hω) (ks_52 _) rfl rfl rfl rfl dX12_takesNumber_11 ?_
    obtain ⟨h4, eh4, hf⟩ := nm_some hf
    refine x_nmh eh4 ?_
    refine x_iconst X (v := 0) dX12_takesNumber_14 (by decide) ?_
    refine x_istore_n X [(1, .int (0 : Int32)), (0, .ref (q 52))] dX12_takesNumber_15 rfl (Nat.le_of_ble_eq_true rfl) rfl ?_
    refine x_lv [1, 0] rfl ?_
    exact k_X12_takesNumber_16 hω X R _ h4 _ hf
theorem mt_X12_takesNumber : MT yX12_takesNumber cX12_takesNumber 2 (some .boolean) "SignalBlindModel" 0 := ⟨(mT_6 50 rfl rfl), (mTp (q := (yX12_takesNumber, 61)) (by decide +kernel) rfl), (mT_1 10 rfl rfl), (mT_6 51 rfl rfl), by decide⟩
theorem c_X12_234 {ω : XO} {rm : Room} {nL : Nat} {κ : XK} {cc : ByteArray} (X : XC ω rm nL κ cc "SignalBlindModel") (hω : ω.2.2.2.1 = 0) {L : List Nat} {q : Nat → Nat} {h h' : hp} {cells slots pc : Nat} {lv : List (Nat × Value)} {rest : List Value}  {r : Int32} (hf : f_X12_takesNumber h = some (h', r)) (hR : rm_X12_takesNumber.frames + 1 ≤ rm.frames ∧ 8 + (2 + 11) + rm_X12_takesNumber.locals ≤ rm.locals) (hcs : cells ≤ rm.cells ∧ slots ≤ rm.slots) (hroom : (rest.map fun v => v.category).sum ≤ 8) (hd : decode cc pc = .ok (.invokevirtual 234, 3)) (kk : XG ω rm nL κ L q h' cells slots (pc + 3) lv (.int r :: rest)) : XG ω rm nL κ L q h cells slots pc lv (.ref (q 52) :: rest) := x_callV X [] rest (k_X12_takesNumber hω hf) mt_X12_takesNumber (mT_6 48 rfl rfl) hR ⟨rfl, rfl⟩ hcs (sdM_52 hω) (ks_52 _) (by decide) rfl rfl hroom hd kk

abbrev rm_X12_emits : Room := { frames := 0, cells := 0, slots := 0, locals := 0 }
def f_X12_emits (h : hp) (p0 : Int32) : Option (hp × Unit) := (chk (hI h 52 21) 600
 (nm (tI h 64 ((hI h 52 21)).toNatClampNeg p0) fun h2 =>
 (nm (sI h2 52 21 ((hI h2 52 21) + (1 : Int32))) fun h3 =>
 (some (h3, ())))))
set_option maxRecDepth 100000 in
set_option maxHeartbeats 4000000 in
theorem k_X12_emits {ω : XO} (hω : ω.2.2.2.1 = 0) {L : List Nat} {q : Nat → Nat} {h h' : hp} {p0 : Int32} {r : Unit} (hf : f_X12_emits h p0 = some (h', r)) : XM ω yX12_emits cX12_emits 2 none rm_X12_emits L q h [.ref (q 52), .int p0] none h' := by
  refine XM_intro [(0, .ref (q 52)), (1, .int p0)] "SignalBlindModel" (by decide) rfl rfl (Nat.le_of_ble_eq_true rfl) (fun κ X R => ?_)
  unfold f_X12_emits at hf
  refine x_aload_n X dX12_emits_0 0 rfl rfl ?_
  refine x_getsj X (i := 52) 12 fl_X12_68_13 (sdM_52 hω) (ks_52 _) rfl (j := 64) rfl dX12_emits_1 ?_
  refine x_aload_n X dX12_emits_4 0 rfl rfl ?_
  refine x_geti X (i := 52) fl_X12_74_13 (sdM_52 hω) (ks_52 _) rfl dX12_emits_5 ?_
  refine x_iload_n X dX12_emits_8 1 rfl rfl ?_
  obtain ⟨z1, hf⟩ := chk_some hf
  refine x_iast X (i := 64) (n := 600) (sdM_64 hω) (ks_64 _) z1 dX12_emits_9 ?_
  obtain ⟨h2, eh2, hf⟩ := nm_some hf
  refine x_nmh eh2 ?_
  refine x_aload_n X dX12_emits_10 0 rfl rfl ?_
  refine x_dup X dX12_emits_11 rfl ?_
  refine x_geti X (i := 52) fl_X12_74_13 (sdM_52 hω) (ks_52 _) rfl dX12_emits_12 ?_
  refine x_iconst X (v := 1) dX12_emits_15 (by decide) ?_
  refine x_iadd X dX12_emits_16 ?_
  refine x_puti X (i := 52) fl_X12_74_13 fw_13 (sdM_52 hω) (ks_52 _) rfl rfl rfl rfl dX12_emits_17 ?_
  obtain ⟨h3, eh3, hf⟩ := nm_some hf
  refine x_nmh eh3 ?_
  exact x_retV X R hf dX12_emits_20
theorem mt_X12_emits : MT yX12_emits cX12_emits 2 none "SignalBlindModel" 1 := ⟨(mT_6 70 rfl rfl), (mTp (q := (yX12_emits, 61)) (by decide +kernel) rfl), (mT_1 10 rfl rfl), (mT_6 71 rfl rfl), by decide⟩
theorem c_X12_226 {ω : XO} {rm : Room} {nL : Nat} {κ : XK} {cc : ByteArray} (X : XC ω rm nL κ cc "SignalBlindModel") (hω : ω.2.2.2.1 = 0) {L : List Nat} {q : Nat → Nat} {h h' : hp} {cells slots pc : Nat} {lv : List (Nat × Value)} {rest : List Value} {p0 : Int32} {r : Unit} (hf : f_X12_emits h p0 = some (h', r)) (hR : rm_X12_emits.frames + 1 ≤ rm.frames ∧ 8 + (2 + 11) + rm_X12_emits.locals ≤ rm.locals) (hcs : cells ≤ rm.cells ∧ slots ≤ rm.slots) (hroom : (rest.map fun v => v.category).sum ≤ 8) (hd : decode cc pc = .ok (.invokevirtual 226, 3)) (kk : XG ω rm nL κ L q h' cells slots (pc + 3) lv (rest)) : XG ω rm nL κ L q h cells slots pc lv (.int p0 :: .ref (q 52) :: rest) := x_callV X [.int p0] rest (k_X12_emits hω hf) mt_X12_emits (mT_6 68 rfl rfl) hR ⟨rfl, rfl⟩ hcs (sdM_52 hω) (ks_52 _) (by decide) rfl rfl hroom hd kk

abbrev rm_X12_whole : Room := { frames := 1, cells := 0, slots := 0, locals := 21 }
def f_X12_whole_52 (h : hp) : Option (hp × Unit) := (some (h, ()))
def f_X12_whole_0 : Nat → hp → Option (hp × Unit)
  | 0, _ => none
  | n + 1, h => (if 0 < (hI h 52 22) then
 (chk ((hI h 52 22) - (1 : Int32)) 101
 (if (aI h 65 (((hI h 52 22) - (1 : Int32))).toNatClampNeg) = (33 : Int32) then
 (bnd (f_X12_emits h (-33 : Int32)) fun h4 _ =>
 (nm (sI h4 52 22 ((hI h4 52 22) - (1 : Int32))) fun h6 =>
 (nm (sI h6 52 23 ((hI h6 52 23) - (1 : Int32))) fun h7 =>
 ((f_X12_whole_0 n) h7))))
 else
 (f_X12_whole_52 h)))
 else
 (f_X12_whole_52 h))
def f_X12_whole (h : hp) : Option (hp × Unit) := (f_X12_whole_0 2000 h)
set_option maxRecDepth 100000 in
set_option maxHeartbeats 4000000 in
theorem k_X12_whole_52 {ω : XO} (hω : ω.2.2.2.1 = 0) {κ : XK} (X : XC ω rm_X12_whole 1 κ cX12_whole "SignalBlindModel") {L : List Nat} {q : Nat → Nat} {h' : hp} {r : Unit} (R : XRet ω rm_X12_whole κ none L q h' none) : ∀ (h : hp), f_X12_whole_52 h = some (h', r) → XG ω rm_X12_whole 1 κ L q h 0 0 52 [] [] := by
  intro h hf
  unfold f_X12_whole_52 at hf
  exact x_retV X R hf dX12_whole_52
set_option maxRecDepth 100000 in
set_option maxHeartbeats 4000000 in
theorem k_X12_whole_0 {ω : XO} (hω : ω.2.2.2.1 = 0) {κ : XK} (X : XC ω rm_X12_whole 1 κ cX12_whole "SignalBlindModel") {L : List Nat} {q : Nat → Nat} {h' : hp} {r : Unit} (R : XRet ω rm_X12_whole κ none L q h' none) : ∀ (n : Nat) (h : hp), f_X12_whole_0 n h = some (h', r) → XG ω rm_X12_whole 1 κ L q h 0 0 0 [(0, .ref (q 52))] [] := by
  intro n
  induction n with
  | zero =>
    intro h hf
    have hf : (none : Option (hp × Unit)) = some (h', r) := hf
    cases hf
  | succ n ih =>
    intro h hf
    rw [f_X12_whole_0] at hf
    refine x_aload_n X dX12_whole_0 0 rfl rfl ?_
    refine x_geti X (i := 52) fl_X12_77_13 (sdM_52 hω) (ks_52 _) rfl dX12_whole_1 ?_
    refine x_if_le X 52 dX12_whole_4 (by decide) (fun c1 => ?_) (fun c1 => ?_)
    · replace hf := (if_pos c1).symm.trans hf
      refine x_aload_n X dX12_whole_7 0 rfl rfl ?_
      refine x_getsj X (i := 52) 13 fl_X12_71_13 (sdM_52 hω) (ks_52 _) rfl (j := 65) rfl dX12_whole_8 ?_
      refine x_aload_n X dX12_whole_11 0 rfl rfl ?_
      refine x_geti X (i := 52) fl_X12_77_13 (sdM_52 hω) (ks_52 _) rfl dX12_whole_12 ?_
      refine x_iconst X (v := 1) dX12_whole_15 (by decide) ?_
      refine x_isub X dX12_whole_16 ?_
      obtain ⟨z2, hf⟩ := chk_some hf
      refine x_iald X (i := 65) (n := 101) (sdM_65 hω) (ks_65 _) z2 dX12_whole_17 ?_
      refine x_bipush X (v := 33) dX12_whole_18 (by decide) ?_
      refine x_icmp_ne X 52 dX12_whole_20 (by decide) (fun c3 => ?_) (fun c3 => ?_)
      · replace hf := (if_pos c3).symm.trans hf
        refine x_aload_n X dX12_whole_23 0 rfl rfl ?_
        refine x_bipush X (v := -33) dX12_whole_24 (by decide) ?_
        obtain ⟨h4, uh4, g5, hf⟩ := bnd_some hf
        refine c_X12_226 X hω g5 (hR := ⟨Nat.le_of_ble_eq_true rfl, Nat.le_of_ble_eq_true rfl⟩) ⟨Nat.zero_le _, Nat.zero_le _⟩ (Nat.le_of_ble_eq_true rfl) dX12_whole_26 ?_
        refine x_aload_n X dX12_whole_29 0 rfl rfl ?_
        refine x_dup X dX12_whole_30 rfl ?_
        refine x_geti X (i := 52) fl_X12_77_13 (sdM_52 hω) (ks_52 _) rfl dX12_whole_31 ?_
        refine x_iconst X (v := 1) dX12_whole_34 (by decide) ?_
        refine x_isub X dX12_whole_35 ?_
        refine x_puti X (i := 52) fl_X12_77_13 fw_13 (sdM_52 hω) (ks_52 _) rfl rfl rfl rfl dX12_whole_36 ?_
        obtain ⟨h6, eh6, hf⟩ := nm_some hf
        refine x_nmh eh6 ?_
        refine x_aload_n X dX12_whole_39 0 rfl rfl ?_
        refine x_dup X dX12_whole_40 rfl ?_
        refine x_geti X (i := 52) fl_X12_80_13 (sdM_52 hω) (ks_52 _) rfl dX12_whole_41 ?_
        refine x_iconst X (v := 1) dX12_whole_44 (by decide) ?_
        refine x_isub X dX12_whole_45 ?_
        refine x_puti X (i := 52) fl_X12_80_13 fw_13 (sdM_52 hω) (ks_52 _) rfl rfl rfl rfl dX12_whole_46 ?_
        obtain ⟨h7, eh7, hf⟩ := nm_some hf
        refine x_nmh eh7 ?_
        refine x_goto X 0 dX12_whole_49 (by decide) ?_
        refine x_lv [0] rfl ?_
        exact ih h7 hf
      · replace hf := (if_neg c3).symm.trans hf
        refine x_lv [] rfl ?_
        exact k_X12_whole_52 hω X R h hf
    · replace hf := (if_neg c1).symm.trans hf
      refine x_lv [] rfl ?_
      exact k_X12_whole_52 hω X R h hf
set_option maxRecDepth 100000 in
set_option maxHeartbeats 4000000 in
theorem k_X12_whole {ω : XO} (hω : ω.2.2.2.1 = 0) {L : List Nat} {q : Nat → Nat} {h h' : hp}  {r : Unit} (hf : f_X12_whole h = some (h', r)) : XM ω yX12_whole cX12_whole 1 none rm_X12_whole L q h [.ref (q 52)] none h' := by
  refine XM_intro [(0, .ref (q 52))] "SignalBlindModel" (by decide) rfl rfl (Nat.le_of_ble_eq_true rfl) (fun κ X R => ?_)
  unfold f_X12_whole at hf
  refine x_lv [0] rfl ?_
  exact k_X12_whole_0 hω X R _ h hf
theorem mt_X12_whole : MT yX12_whole cX12_whole 1 none "SignalBlindModel" 0 := ⟨(mT_6 74 rfl rfl), (mTp (q := (yX12_whole, 61)) (by decide +kernel) rfl), (mT_1 10 rfl rfl), (mT_6 75 rfl rfl), by decide⟩
theorem c_X12_237 {ω : XO} {rm : Room} {nL : Nat} {κ : XK} {cc : ByteArray} (X : XC ω rm nL κ cc "SignalBlindModel") (hω : ω.2.2.2.1 = 0) {L : List Nat} {q : Nat → Nat} {h h' : hp} {cells slots pc : Nat} {lv : List (Nat × Value)} {rest : List Value}  {r : Unit} (hf : f_X12_whole h = some (h', r)) (hR : rm_X12_whole.frames + 1 ≤ rm.frames ∧ 8 + (1 + 11) + rm_X12_whole.locals ≤ rm.locals) (hcs : cells ≤ rm.cells ∧ slots ≤ rm.slots) (hroom : (rest.map fun v => v.category).sum ≤ 8) (hd : decode cc pc = .ok (.invokevirtual 237, 3)) (kk : XG ω rm nL κ L q h' cells slots (pc + 3) lv (rest)) : XG ω rm nL κ L q h cells slots pc lv (.ref (q 52) :: rest) := x_callV X [] rest (k_X12_whole hω hf) mt_X12_whole (mT_6 72 rfl rfl) hR ⟨rfl, rfl⟩ hcs (sdM_52 hω) (ks_52 _) (by decide) rfl rfl hroom hd kk

abbrev rm_X12_settle : Room := { frames := 1, cells := 0, slots := 0, locals := 21 }
def f_X12_settle_45 (k0 : hp → Int32 → Option (hp × Unit)) (h : hp) (a5 : Int32) : Option (hp × Unit) := (nm (sI h 52 22 ((hI h 52 22) - (1 : Int32))) fun h6 =>
 (chk (hI h6 52 22) 101
 (bnd (f_X12_emits h6 (-(aI h6 65 ((hI h6 52 22)).toNatClampNeg))) fun h8 _ =>
 (k0 h8 a5))))
def f_X12_settle_72 (h : hp) : Option (hp × Unit) := (some (h, ()))
def f_X12_settle_0 : Nat → hp → Int32 → Option (hp × Unit)
  | 0, _, _ => none
  | n + 1, h, a1 => (if 0 < (hI h 52 22) then
 (chk ((hI h 52 22) - (1 : Int32)) 101
 (if (aI h 65 (((hI h 52 22) - (1 : Int32))).toNatClampNeg) = (38 : Int32) then
 (f_X12_settle_45 (f_X12_settle_0 n) h a1)
 else
 (chk ((hI h 52 22) - (1 : Int32)) 101
 (if (aI h 65 (((hI h 52 22) - (1 : Int32))).toNatClampNeg) = (124 : Int32) then
 (if a1 = (38 : Int32) then
 (f_X12_settle_72 h)
 else
 (f_X12_settle_45 (f_X12_settle_0 n) h a1))
 else
 (f_X12_settle_72 h)))))
 else
 (f_X12_settle_72 h))
def f_X12_settle (h : hp) (p0 : Int32) : Option (hp × Unit) := (f_X12_settle_0 2000 h p0)
set_option maxRecDepth 100000 in
set_option maxHeartbeats 4000000 in
theorem k_X12_settle_45 {ω : XO} (hω : ω.2.2.2.1 = 0) {κ : XK} (X : XC ω rm_X12_settle 2 κ cX12_settle "SignalBlindModel") {L : List Nat} {q : Nat → Nat} {h' : hp} {r : Unit} (R : XRet ω rm_X12_settle κ none L q h' none) (k0 : hp → Int32 → Option (hp × Unit)) (hk0 : ∀ (h : hp) (a1 : Int32), k0 h a1 = some (h', r) → XG ω rm_X12_settle 2 κ L q h 0 0 0 [(0, .ref (q 52)), (1, .int a1)] []) : ∀ (h : hp) (a5 : Int32), f_X12_settle_45 k0 h a5 = some (h', r) → XG ω rm_X12_settle 2 κ L q h 0 0 45 [(0, .ref (q 52)), (1, .int a5)] [] := by
  intro h a5 hf
  unfold f_X12_settle_45 at hf
  refine x_aload_n X dX12_settle_45 0 rfl rfl ?_
  refine x_dup X dX12_settle_46 rfl ?_
  refine x_geti X (i := 52) fl_X12_77_13 (sdM_52 hω) (ks_52 _) rfl dX12_settle_47 ?_
  refine x_iconst X (v := 1) dX12_settle_50 (by decide) ?_
  refine x_isub X dX12_settle_51 ?_
  refine x_puti X (i := 52) fl_X12_77_13 fw_13 (sdM_52 hω) (ks_52 _) rfl rfl rfl rfl dX12_settle_52 ?_
  obtain ⟨h6, eh6, hf⟩ := nm_some hf
  refine x_nmh eh6 ?_
  refine x_aload_n X dX12_settle_55 0 rfl rfl ?_
  refine x_aload_n X dX12_settle_56 0 rfl rfl ?_
  refine x_getsj X (i := 52) 13 fl_X12_71_13 (sdM_52 hω) (ks_52 _) rfl (j := 65) rfl dX12_settle_57 ?_
  refine x_aload_n X dX12_settle_60 0 rfl rfl ?_
  refine x_geti X (i := 52) fl_X12_77_13 (sdM_52 hω) (ks_52 _) rfl dX12_settle_61 ?_
  obtain ⟨z7, hf⟩ := chk_some hf
  refine x_iald X (i := 65) (n := 101) (sdM_65 hω) (ks_65 _) z7 dX12_settle_64 ?_
  refine x_ineg X dX12_settle_65 ?_
  obtain ⟨h8, uh8, g9, hf⟩ := bnd_some hf
  refine c_X12_226 X hω g9 (hR := ⟨Nat.le_of_ble_eq_true rfl, Nat.le_of_ble_eq_true rfl⟩) ⟨Nat.zero_le _, Nat.zero_le _⟩ (Nat.le_of_ble_eq_true rfl) dX12_settle_66 ?_
  refine x_goto X 0 dX12_settle_69 (by decide) ?_
  refine x_lv [0, 1] rfl ?_
  exact hk0 h8 _ hf
set_option maxRecDepth 100000 in
set_option maxHeartbeats 4000000 in
theorem k_X12_settle_72 {ω : XO} (hω : ω.2.2.2.1 = 0) {κ : XK} (X : XC ω rm_X12_settle 2 κ cX12_settle "SignalBlindModel") {L : List Nat} {q : Nat → Nat} {h' : hp} {r : Unit} (R : XRet ω rm_X12_settle κ none L q h' none) : ∀ (h : hp), f_X12_settle_72 h = some (h', r) → XG ω rm_X12_settle 2 κ L q h 0 0 72 [] [] := by
  intro h hf
  unfold f_X12_settle_72 at hf
  exact x_retV X R hf dX12_settle_72
set_option maxRecDepth 100000 in
set_option maxHeartbeats 4000000 in
theorem k_X12_settle_0 {ω : XO} (hω : ω.2.2.2.1 = 0) {κ : XK} (X : XC ω rm_X12_settle 2 κ cX12_settle "SignalBlindModel") {L : List Nat} {q : Nat → Nat} {h' : hp} {r : Unit} (R : XRet ω rm_X12_settle κ none L q h' none) : ∀ (n : Nat) (h : hp) (a1 : Int32), f_X12_settle_0 n h a1 = some (h', r) → XG ω rm_X12_settle 2 κ L q h 0 0 0 [(0, .ref (q 52)), (1, .int a1)] [] := by
  intro n
  induction n with
  | zero =>
    intro h a1 hf
    have hf : (none : Option (hp × Unit)) = some (h', r) := hf
    cases hf
  | succ n ih =>
    intro h a1 hf
    rw [f_X12_settle_0] at hf
    refine x_aload_n X dX12_settle_0 0 rfl rfl ?_
    refine x_geti X (i := 52) fl_X12_77_13 (sdM_52 hω) (ks_52 _) rfl dX12_settle_1 ?_
    refine x_if_le X 72 dX12_settle_4 (by decide) (fun c2 => ?_) (fun c2 => ?_)
    · replace hf := (if_pos c2).symm.trans hf
      refine x_aload_n X dX12_settle_7 0 rfl rfl ?_
      refine x_getsj X (i := 52) 13 fl_X12_71_13 (sdM_52 hω) (ks_52 _) rfl (j := 65) rfl dX12_settle_8 ?_
      refine x_aload_n X dX12_settle_11 0 rfl rfl ?_
      refine x_geti X (i := 52) fl_X12_77_13 (sdM_52 hω) (ks_52 _) rfl dX12_settle_12 ?_
      refine x_iconst X (v := 1) dX12_settle_15 (by decide) ?_
      refine x_isub X dX12_settle_16 ?_
      obtain ⟨z3, hf⟩ := chk_some hf
      refine x_iald X (i := 65) (n := 101) (sdM_65 hω) (ks_65 _) z3 dX12_settle_17 ?_
      refine x_bipush X (v := 38) dX12_settle_18 (by decide) ?_
      refine x_icmp_eq X 45 dX12_settle_20 (by decide) (fun c4 => ?_) (fun c4 => ?_)
      · replace hf := (if_pos c4).symm.trans hf
        refine x_lv [0, 1] rfl ?_
        exact k_X12_settle_45 hω X R _ ih h _ hf
      · replace hf := (if_neg c4).symm.trans hf
        refine x_aload_n X dX12_settle_23 0 rfl rfl ?_
        refine x_getsj X (i := 52) 13 fl_X12_71_13 (sdM_52 hω) (ks_52 _) rfl (j := 65) rfl dX12_settle_24 ?_
        refine x_aload_n X dX12_settle_27 0 rfl rfl ?_
        refine x_geti X (i := 52) fl_X12_77_13 (sdM_52 hω) (ks_52 _) rfl dX12_settle_28 ?_
        refine x_iconst X (v := 1) dX12_settle_31 (by decide) ?_
        refine x_isub X dX12_settle_32 ?_
        obtain ⟨z10, hf⟩ := chk_some hf
        refine x_iald X (i := 65) (n := 101) (sdM_65 hω) (ks_65 _) z10 dX12_settle_33 ?_
        refine x_bipush X (v := 124) dX12_settle_34 (by decide) ?_
        refine x_icmp_ne X 72 dX12_settle_36 (by decide) (fun c11 => ?_) (fun c11 => ?_)
        · replace hf := (if_pos c11).symm.trans hf
          refine x_iload_n X dX12_settle_39 1 rfl rfl ?_
          refine x_bipush X (v := 38) dX12_settle_40 (by decide) ?_
          refine x_icmp_eq X 72 dX12_settle_42 (by decide) (fun c12 => ?_) (fun c12 => ?_)
          · replace hf := (if_pos c12).symm.trans hf
            refine x_lv [] rfl ?_
            exact k_X12_settle_72 hω X R h hf
          · replace hf := (if_neg c12).symm.trans hf
            refine x_lv [0, 1] rfl ?_
            exact k_X12_settle_45 hω X R _ ih h _ hf
        · replace hf := (if_neg c11).symm.trans hf
          refine x_lv [] rfl ?_
          exact k_X12_settle_72 hω X R h hf
    · replace hf := (if_neg c2).symm.trans hf
      refine x_lv [] rfl ?_
      exact k_X12_settle_72 hω X R h hf
set_option maxRecDepth 100000 in
set_option maxHeartbeats 4000000 in
theorem k_X12_settle {ω : XO} (hω : ω.2.2.2.1 = 0) {L : List Nat} {q : Nat → Nat} {h h' : hp} {p0 : Int32} {r : Unit} (hf : f_X12_settle h p0 = some (h', r)) : XM ω yX12_settle cX12_settle 2 none rm_X12_settle L q h [.ref (q 52), .int p0] none h' := by
  refine XM_intro [(0, .ref (q 52)), (1, .int p0)] "SignalBlindModel" (by decide) rfl rfl (Nat.le_of_ble_eq_true rfl) (fun κ X R => ?_)
  unfold f_X12_settle at hf
  refine x_lv [0, 1] rfl ?_
  exact k_X12_settle_0 hω X R _ h _ hf
theorem mt_X12_settle : MT yX12_settle cX12_settle 2 none "SignalBlindModel" 1 := ⟨(mT_6 78 rfl rfl), (mTp (q := (yX12_settle, 61)) (by decide +kernel) rfl), (mT_1 10 rfl rfl), (mT_6 79 rfl rfl), by decide⟩
theorem c_X12_243 {ω : XO} {rm : Room} {nL : Nat} {κ : XK} {cc : ByteArray} (X : XC ω rm nL κ cc "SignalBlindModel") (hω : ω.2.2.2.1 = 0) {L : List Nat} {q : Nat → Nat} {h h' : hp} {cells slots pc : Nat} {lv : List (Nat × Value)} {rest : List Value} {p0 : Int32} {r : Unit} (hf : f_X12_settle h p0 = some (h', r)) (hR : rm_X12_settle.frames + 1 ≤ rm.frames ∧ 8 + (2 + 11) + rm_X12_settle.locals ≤ rm.locals) (hcs : cells ≤ rm.cells ∧ slots ≤ rm.slots) (hroom : (rest.map fun v => v.category).sum ≤ 8) (hd : decode cc pc = .ok (.invokevirtual 243, 3)) (kk : XG ω rm nL κ L q h' cells slots (pc + 3) lv (rest)) : XG ω rm nL κ L q h cells slots pc lv (.int p0 :: .ref (q 52) :: rest) := x_callV X [.int p0] rest (k_X12_settle hω hf) mt_X12_settle (mT_6 76 rfl rfl) hR ⟨rfl, rfl⟩ hcs (sdM_52 hω) (ks_52 _) (by decide) rfl rfl hroom hd kk

abbrev rm_X12_place : Room := { frames := 0, cells := 0, slots := 0, locals := 0 }
def f_X12_place (h : hp) (p0 : Int32) : Option Int32 := (if p0 = (102 : Int32) then
 (some (4 : Int32))
 else
 (if p0 = (103 : Int32) then
 (some (-1 : Int32))
 else
 (if p0 = (104 : Int32) then
 (some (5 : Int32))
 else
 (if p0 = (105 : Int32) then
 (some (-1 : Int32))
 else
 (if p0 = (106 : Int32) then
 (some (-1 : Int32))
 else
 (if p0 = (107 : Int32) then
 (some (1 : Int32))
 else
 (if p0 = (108 : Int32) then
 (some (-1 : Int32))
 else
 (if p0 = (109 : Int32) then
 (some (-1 : Int32))
 else
 (if p0 = (110 : Int32) then
 (some (-1 : Int32))
 else
 (if p0 = (111 : Int32) then
 (some (3 : Int32))
 else
 (if p0 = (112 : Int32) then
 (some (-1 : Int32))
 else
 (if p0 = (113 : Int32) then
 (some (-1 : Int32))
 else
 (if p0 = (114 : Int32) then
 (some (-1 : Int32))
 else
 (if p0 = (115 : Int32) then
 (some (0 : Int32))
 else
 (if p0 = (116 : Int32) then
 (some (-1 : Int32))
 else
 (if p0 = (117 : Int32) then
 (some (-1 : Int32))
 else
 (if p0 = (118 : Int32) then
 (some (2 : Int32))
 else
 (some (-1 : Int32)))))))))))))))))))
set_option maxRecDepth 100000 in
set_option maxHeartbeats 4000000 in
theorem k_X12_place {ω : XO} (hω : ω.2.2.2.1 = 0) {L : List Nat} {q : Nat → Nat} {h : hp} {p0 : Int32} {r : Int32} (hf : f_X12_place h p0 = some r) : XM ω yX12_place cX12_place 2 (some .int) rm_X12_place L q h [.ref (q 52), .int p0] (some (.int r)) h := by
  refine XM_intro [(0, .ref (q 52)), (1, .int p0)] "SignalBlindModel" (by decide) rfl rfl (Nat.le_of_ble_eq_true rfl) (fun κ X R => ?_)
  unfold f_X12_place at hf
  refine x_iload_n X dX12_place_0 1 rfl rfl ?_
  by_cases s1 : p0 = (102 : Int32)
  · replace hf := (if_pos s1).symm.trans hf
    refine x_tswI X (off := 91) 92 dX12_place_1 s1 (by decide) (by decide) (by decide) (by decide) ?_
    refine x_iconst X (v := 4) dX12_place_92 (by decide) ?_
    exact x_retRI X R hf dX12_place_93
  · replace hf := (if_neg s1).symm.trans hf
    by_cases s2 : p0 = (103 : Int32)
    · replace hf := (if_pos s2).symm.trans hf
      refine x_tswI X (off := 95) 96 dX12_place_1 s2 (by decide) (by decide) (by decide) (by decide) ?_
      refine x_iconst X (v := -1) dX12_place_96 (by decide) ?_
      exact x_retRI X R hf dX12_place_97
    · replace hf := (if_neg s2).symm.trans hf
      by_cases s3 : p0 = (104 : Int32)
      · replace hf := (if_pos s3).symm.trans hf
        refine x_tswI X (off := 93) 94 dX12_place_1 s3 (by decide) (by decide) (by decide) (by decide) ?_
        refine x_iconst X (v := 5) dX12_place_94 (by decide) ?_
        exact x_retRI X R hf dX12_place_95
      · replace hf := (if_neg s3).symm.trans hf
        by_cases s4 : p0 = (105 : Int32)
        · replace hf := (if_pos s4).symm.trans hf
          refine x_tswI X (off := 95) 96 dX12_place_1 s4 (by decide) (by decide) (by decide) (by decide) ?_
          refine x_iconst X (v := -1) dX12_place_96 (by decide) ?_
          exact x_retRI X R hf dX12_place_97
        · replace hf := (if_neg s4).symm.trans hf
          by_cases s5 : p0 = (106 : Int32)
          · replace hf := (if_pos s5).symm.trans hf
            refine x_tswI X (off := 95) 96 dX12_place_1 s5 (by decide) (by decide) (by decide) (by decide) ?_
            refine x_iconst X (v := -1) dX12_place_96 (by decide) ?_
            exact x_retRI X R hf dX12_place_97
          · replace hf := (if_neg s5).symm.trans hf
            by_cases s6 : p0 = (107 : Int32)
            · replace hf := (if_pos s6).symm.trans hf
              refine x_tswI X (off := 85) 86 dX12_place_1 s6 (by decide) (by decide) (by decide) (by decide) ?_
              refine x_iconst X (v := 1) dX12_place_86 (by decide) ?_
              exact x_retRI X R hf dX12_place_87
            · replace hf := (if_neg s6).symm.trans hf
              by_cases s7 : p0 = (108 : Int32)
              · replace hf := (if_pos s7).symm.trans hf
                refine x_tswI X (off := 95) 96 dX12_place_1 s7 (by decide) (by decide) (by decide) (by decide) ?_
                refine x_iconst X (v := -1) dX12_place_96 (by decide) ?_
                exact x_retRI X R hf dX12_place_97
              · replace hf := (if_neg s7).symm.trans hf
                by_cases s8 : p0 = (109 : Int32)
                · replace hf := (if_pos s8).symm.trans hf
                  refine x_tswI X (off := 95) 96 dX12_place_1 s8 (by decide) (by decide) (by decide) (by decide) ?_
                  refine x_iconst X (v := -1) dX12_place_96 (by decide) ?_
                  exact x_retRI X R hf dX12_place_97
                · replace hf := (if_neg s8).symm.trans hf
                  by_cases s9 : p0 = (110 : Int32)
                  · replace hf := (if_pos s9).symm.trans hf
                    refine x_tswI X (off := 95) 96 dX12_place_1 s9 (by decide) (by decide) (by decide) (by decide) ?_
                    refine x_iconst X (v := -1) dX12_place_96 (by decide) ?_
                    exact x_retRI X R hf dX12_place_97
                  · replace hf := (if_neg s9).symm.trans hf
                    by_cases s10 : p0 = (111 : Int32)
                    · replace hf := (if_pos s10).symm.trans hf
                      refine x_tswI X (off := 89) 90 dX12_place_1 s10 (by decide) (by decide) (by decide) (by decide) ?_
                      refine x_iconst X (v := 3) dX12_place_90 (by decide) ?_
                      exact x_retRI X R hf dX12_place_91
                    · replace hf := (if_neg s10).symm.trans hf
                      by_cases s11 : p0 = (112 : Int32)
                      · replace hf := (if_pos s11).symm.trans hf
                        refine x_tswI X (off := 95) 96 dX12_place_1 s11 (by decide) (by decide) (by decide) (by decide) ?_
                        refine x_iconst X (v := -1) dX12_place_96 (by decide) ?_
                        exact x_retRI X R hf dX12_place_97
                      · replace hf := (if_neg s11).symm.trans hf
                        by_cases s12 : p0 = (113 : Int32)
                        · replace hf := (if_pos s12).symm.trans hf
                          refine x_tswI X (off := 95) 96 dX12_place_1 s12 (by decide) (by decide) (by decide) (by decide) ?_
                          refine x_iconst X (v := -1) dX12_place_96 (by decide) ?_
                          exact x_retRI X R hf dX12_place_97
                        · replace hf := (if_neg s12).symm.trans hf
                          by_cases s13 : p0 = (114 : Int32)
                          · replace hf := (if_pos s13).symm.trans hf
                            refine x_tswI X (off := 95) 96 dX12_place_1 s13 (by decide) (by decide) (by decide) (by decide) ?_
                            refine x_iconst X (v := -1) dX12_place_96 (by decide) ?_
                            exact x_retRI X R hf dX12_place_97
                          · replace hf := (if_neg s13).symm.trans hf
                            by_cases s14 : p0 = (115 : Int32)
                            · replace hf := (if_pos s14).symm.trans hf
                              refine x_tswI X (off := 83) 84 dX12_place_1 s14 (by decide) (by decide) (by decide) (by decide) ?_
                              refine x_iconst X (v := 0) dX12_place_84 (by decide) ?_
                              exact x_retRI X R hf dX12_place_85
                            · replace hf := (if_neg s14).symm.trans hf
                              by_cases s15 : p0 = (116 : Int32)
                              · replace hf := (if_pos s15).symm.trans hf
                                refine x_tswI X (off := 95) 96 dX12_place_1 s15 (by decide) (by decide) (by decide) (by decide) ?_
                                refine x_iconst X (v := -1) dX12_place_96 (by decide) ?_
                                exact x_retRI X R hf dX12_place_97
                              · replace hf := (if_neg s15).symm.trans hf
                                by_cases s16 : p0 = (117 : Int32)
                                · replace hf := (if_pos s16).symm.trans hf
                                  refine x_tswI X (off := 95) 96 dX12_place_1 s16 (by decide) (by decide) (by decide) (by decide) ?_
                                  refine x_iconst X (v := -1) dX12_place_96 (by decide) ?_
                                  exact x_retRI X R hf dX12_place_97
                                · replace hf := (if_neg s16).symm.trans hf
                                  by_cases s17 : p0 = (118 : Int32)
                                  · replace hf := (if_pos s17).symm.trans hf
                                    refine x_tswI X (off := 87) 88 dX12_place_1 s17 (by decide) (by decide) (by decide) (by decide) ?_
                                    refine x_iconst X (v := 2) dX12_place_88 (by decide) ?_
                                    exact x_retRI X R hf dX12_place_89
                                  · replace hf := (if_neg s17).symm.trans hf
                                    refine x_tswO X 96 dX12_place_1 (by have := lv_neT s1 (a := 102) (by decide); have := lv_neT s2 (a := 103) (by decide); have := lv_neT s3 (a := 104) (by decide); have := lv_neT s4 (a := 105) (by decide); have := lv_neT s5 (a := 106) (by decide); have := lv_neT s6 (a := 107) (by decide); have := lv_neT s7 (a := 108) (by decide); have := lv_neT s8 (a := 109) (by decide); have := lv_neT s9 (a := 110) (by decide); have := lv_neT s10 (a := 111) (by decide); have := lv_neT s11 (a := 112) (by decide); have := lv_neT s12 (a := 113) (by decide); have := lv_neT s13 (a := 114) (by decide); have := lv_neT s14 (a := 115) (by decide); have := lv_neT s15 (a := 116) (by decide); have := lv_neT s16 (a := 117) (by decide); have := lv_neT s17 (a := 118) (by decide); omega) (by decide) ?_
                                    refine x_iconst X (v := -1) dX12_place_96 (by decide) ?_
                                    exact x_retRI X R hf dX12_place_97
theorem mt_X12_place : MT yX12_place cX12_place 2 (some .int) "SignalBlindModel" 1 := ⟨(mT_6 66 rfl rfl), (mTp (q := (yX12_place, 61)) (by decide +kernel) rfl), (mT_1 10 rfl rfl), (mT_6 67 rfl rfl), by decide⟩
theorem c_X12_230 {ω : XO} {rm : Room} {nL : Nat} {κ : XK} {cc : ByteArray} (X : XC ω rm nL κ cc "SignalBlindModel") (hω : ω.2.2.2.1 = 0) {L : List Nat} {q : Nat → Nat} {h : hp} {cells slots pc : Nat} {lv : List (Nat × Value)} {rest : List Value} {p0 : Int32} {r : Int32} (hf : f_X12_place h p0 = some r) (hR : rm_X12_place.frames + 1 ≤ rm.frames ∧ 8 + (2 + 11) + rm_X12_place.locals ≤ rm.locals) (hcs : cells ≤ rm.cells ∧ slots ≤ rm.slots) (hroom : (rest.map fun v => v.category).sum ≤ 8) (hd : decode cc pc = .ok (.invokevirtual 230, 3)) (kk : XG ω rm nL κ L q h cells slots (pc + 3) lv (.int r :: rest)) : XG ω rm nL κ L q h cells slots pc lv (.int p0 :: .ref (q 52) :: rest) := x_callV X [.int p0] rest (k_X12_place hω hf) mt_X12_place (mT_6 64 rfl rfl) hR ⟨rfl, rfl⟩ hcs (sdM_52 hω) (ks_52 _) (by decide) rfl rfl hroom hd kk
