-- ===== senders: seven classes =====
def sndK : List Nat := [2, 3, 6, 7, 9, 10, 12]
def ckS {α : Type} (h : hp) (o : Nat) (a : Option α) : Option α := if sd 1 o = true ∧ kdOf h o ∈ sndK then a else none
theorem ckS_some {α : Type} {h : hp} {o : Nat} {a : Option α} {r : α} (hh : ckS h o a = some r) : (sd 1 o = true ∧ kdOf h o ∈ sndK) ∧ a = some r := by
  unfold ckS at hh
  by_cases hc : sd 1 o = true ∧ kdOf h o ∈ sndK
  · rw [if_pos hc] at hh; exact ⟨hc, hh⟩
  · rw [if_neg hc] at hh; cases hh
def ckN {α : Type} (h : hp) (o : Option Nat) (a : Option α) : Option α := match o with
  | none => a
  | some i => ckS h i a
theorem ckN_some {α : Type} {h : hp} {o : Option Nat} {a : Option α} {r : α} (hh : ckN h o a = some r) : (∀ i, o = some i → sd 1 i = true ∧ kdOf h i ∈ sndK) ∧ a = some r := by
  match o, hh with
  | none, hh => exact ⟨(fun i e => by cases e), hh⟩
  | some j, hh => exact ⟨(fun i e => by cases e; exact (ckS_some hh).1), (ckS_some hh).2⟩
theorem snd_cases {n : Nat} (h : n ∈ sndK) : n = 1 + 1 ∨ n = 2 + 1 ∨ n = 5 + 1 ∨ n = 6 + 1 ∨ n = 8 + 1 ∨ n = 9 + 1 ∨ n = 11 + 1 := by
  simpa [sndK] using h
def ckV {α : Type} (h : hp) (o : Option Nat) (a : Option α) : Option α := match o with
  | none => a
  | some t => if sd 1 t = true ∧ kdOf h t ≠ 0 then a else none
theorem ckV_some {α : Type} {h : hp} {o : Option Nat} {a : Option α} {r : α} (hh : ckV h o a = some r) : (∀ t, o = some t → sd 1 t = true ∧ kdOf h t ≠ 0) ∧ a = some r := by
  match o, hh with
  | none, hh => exact ⟨(fun i e => by cases e), hh⟩
  | some j, hh =>
    unfold ckV at hh
    by_cases hc : sd 1 j = true ∧ kdOf h j ≠ 0
    · simp only [if_pos hc] at hh; exact ⟨(fun i e => by cases e; exact hc), hh⟩
    · simp only [if_neg hc] at hh; cases hh
theorem lv_of {ω : XO} (hω : ω.2.2.2.1 = 1) {h : hp} {o : Option Nat} (hb : ∀ t, o = some t → sd 1 t = true ∧ kdOf h t ≠ 0) : ∀ t, o = some t → sd ω.2.2.2.1 t = true ∧ kdOf h t ≠ 0 := fun t ht => ⟨sd_of hω (hb t ht).1, (hb t ht).2⟩
def isK (h : hp) (o : Nat) (ks : List Nat) : Int32 := if kdOf h o ∈ ks then 1 else 0
-- ===== a text constant's own; statics =====
theorem x_retSA {ω : XO} {rm : Room} {nL : Nat} {κ : XK} {cc : ByteArray} {own : String} (X : XC ω rm nL κ cc own) {L : List Nat} {q : Nat → Nat} {h h' : hp} {r v : Nat} {rt : FieldType} (R : XRet ω rm κ (some rt) L q h' (some (.ref (q r)))) (hrt : ∃ n, rt = .object n) (hf : some (h, v) = some (h', r)) {pc : Nat} {lv : List (Nat × Value)} (hd : decode cc pc = .ok (.areturn, 1)) : XG ω rm nL κ L q h 0 0 pc lv [.ref (q v)] := by
  obtain ⟨e1, e2⟩ := Prod.mk.injEq .. ▸ Option.some.inj hf
  subst e1; subst e2
  obtain ⟨l, D, E, b, ζ⟩ := ω
  obtain ⟨p, e, s, m, args, below, meth, c, Q, A⟩ := κ
  obtain ⟨hx, hb, -, -, -, -, hlocks, -, -⟩ := X
  obtain ⟨hr, rfl, rfl⟩ := R
  intro H locs la hP hX hA hS hl
  refine W.widen (k := rm.cells) (n := rm.slots) (Nat.zero_le _) (Nat.zero_le _) ?_
  exact W.aret hx hb hr (Or.inl hrt) (Or.inr ⟨_, rfl⟩) (fun t ht _ => ⟨⟨rfl, by rw [ht]; exact hP, hX⟩, hS.F ht⟩) hS.2.2 hd hlocks
theorem x_statC {ω : XO} {rm : Room} {nL : Nat} {κ : XK} {cc : ByteArray} {own : String} (X : XC ω rm nL κ cc own) {L : List Nat} {q : Nat → Nat} {h : hp} {cells slots pc idx : Nat} {lv : List (Nat × Value)} {rest : List Value} (hl0 : Cond.fieldLink own idx "java/lang/String" "COMPACT_STRINGS" "Z" ∈ ALLW) (hd : decode cc pc = .ok (.getstatic idx, 3)) (k : XG ω rm nL κ L q h cells slots (pc + 3) lv (.int (1 : Int32) :: rest)) : XG ω rm nL κ L q h cells slots pc lv rest := by
  obtain ⟨l, D, E, b, ζ⟩ := ω
  obtain ⟨p, e, s, m, args, below, meth, c, Q, A⟩ := κ
  intro H locs la hP hX hA hS hl
  exact va_gets X.1 X.2.1 X.2.2.2.2.2.2.2.2.1 hS X.2.2.2.1 (X.2.2.2.2.1 _ hl0) (fun x hx => hx) hd (k H locs la hP hX hA hS hl)
theorem x_statF {ω : XO} {rm : Room} {nL : Nat} {κ : XK} {cc : ByteArray} {own : String} (X : XC ω rm nL κ cc own) {L : List Nat} {q : Nat → Nat} {h : hp} {cells slots pc idx : Nat} {lv : List (Nat × Value)} {rest : List Value} (hl0 : Cond.fieldLink own idx "jdk/internal/util/Preconditions" "SIOOBE_FORMATTER" "Ljava/util/function/BiFunction;" ∈ ALLW) (hd : decode cc pc = .ok (.getstatic idx, 3)) (k : ∀ v : Option Nat, XG ω rm nL κ L q h cells slots (pc + 3) lv (va_rf v :: rest)) : XG ω rm nL κ L q h cells slots pc lv rest := by
  obtain ⟨l, D, E, b, ζ⟩ := ω
  obtain ⟨p, e, s, m, args, below, meth, c, Q, A⟩ := κ
  intro H locs la hP hX hA hS hl
  rcases X.2.2.2.2.2.2.2.2.2.1 with hz | ⟨t, hz⟩
  · exact va_gets X.1 X.2.1 hz hS X.2.2.2.1 (X.2.2.2.2.1 _ hl0) (fun x hx => hx) hd (k none H locs la hP hX hA hS hl)
  · exact va_gets X.1 X.2.1 hz hS X.2.2.2.1 (X.2.2.2.2.1 _ hl0) (fun x hx => hx) hd (k (some t) H locs la hP hX hA hS hl)
theorem x_putrN {ω : XO} {rm : Room} {nL : Nat} {κ : XK} {cc : ByteArray} {own : String} (X : XC ω rm nL κ cc own) {L : List Nat} {q : Nat → Nat} {h : hp} {cells slots pc : Nat} {lv : List (Nat × Value)} {rest : List Value} {i k ci idx : Nat} {rf C : String} {T : u_T} {N : Nat} {o : Option Nat} {ty0 : Nat → FieldType} {nm : String} (F : FL own idx ci k rf C T N) (P : FW C T N ty0) (hs : sd ω.2.2.2.1 i = true) (hk : kdOf h i = ci + 1) (hf : (ktF ci)[k]? = some 1) (hfin : (T k).2.2.2 = false) (hlv : ∀ t, o = some t → sd ω.2.2.2.1 t = true ∧ kdOf h t ≠ 0) (hty : ty0 k = .object nm) (hd : decode cc pc = .ok (.putfield idx, 3)) (kk : XG ω rm nL κ L q (sR h i k o) cells slots (pc + 3) lv rest) : XG ω rm nL κ L q h cells slots pc lv (va_rf (o.map q) :: .ref (q i) :: rest) := by
  refine x_putr (o := o) X F P hs hk hf hfin hlv rfl ?_ ?_ hd kk
  · rw [hty]; cases o <;> rfl
  · rw [hty]; cases o <;> rfl
theorem x_aast {ω : XO} {rm : Room} {nL : Nat} {κ : XK} {cc : ByteArray} {own : String} (X : XC ω rm nL κ cc own) (hω : ω.2.2.2.1 = 1) {L : List Nat} {q : Nat → Nat} {h : hp} {cells slots pc : Nat} {lv : List (Nat × Value)} {rest : List Value} {i n : Nat} {x : Int32} {o : Option Nat} {v : Value} (hb : ∀ j, o = some j → sd 1 j = true ∧ kdOf h j ∈ sndK) (hv : v = va_rf (o.map q)) (hs : sd ω.2.2.2.1 i = true) (hk : kdOf h i = 40 + 10 * n + 4) (hin : vp_in x n) (hd : decode cc pc = .ok (.aastore, 1)) (kk : XG ω rm nL κ L q (tR h i x.toNatClampNeg o) cells slots (pc + 1) lv rest) : XG ω rm nL κ L q h cells slots pc lv (v :: .int x :: .ref (q i) :: rest) := by
  obtain ⟨l, D, E, b, ζ⟩ := ω
  obtain ⟨p, e2, s, m, args, below, meth, c, Q, A⟩ := κ
  subst hv
  intro H locs la hP hX hA hS hl
  have hi : i ∈ L := hX.2.2.1 i hs (by rw [hk]; omega)
  obtain ⟨j, hLj, hj⟩ := XL_at (E := E) (q := q) (h := h) hi
  rw [cellX_row hk (by omega), acn_r (by omega)] at hj
  have hrow : cellX E q (tR h i x.toNatClampNeg o) i = .inl (E 4, n, .inr (.inr (.inr (.inr (fun j => (aR (tR h i x.toNatClampNeg o) i j).map q))))) := by
    rw [cellX_row (show kdOf (tR h i x.toNatClampNeg o) i = _ from hk) (by omega), acn_r (by omega)]
  have hX' : XD b L q (tR h i x.toNatClampNeg o) := XD_tR hX (fun t ht => ⟨by rw [show b = 1 from hω]; exact (hb t ht).1, by intro h0; have := (hb t ht).2; rw [h0] at this; simp [sndK] at this⟩)
  match o, hb, hrow, kk, hX' with
  | none, hb, hrow, kk, hX' =>
    refine va_astqN X.1 X.2.1 X.2.2.2.2.2.1 hP (XL_D hX hA) hS j 4 hj rfl hin hd (fun H1 locs1 hP1 hD1 hS1 => ?_)
    rw [XL_set (h' := tR h i x.toNatClampNeg none) hX.1 hLj (hrow.trans (congrArg (fun z => Sum.inl (E 4, n, Sum.inr (Sum.inr (Sum.inr (Sum.inr z))))) (by funext k; by_cases hkx : k = x.toNatClampNeg <;> simp [va_up, aR, tR, up2, hkx]))) (fun j hj => cellX_tR hj)] at hP1
    exact kk H1 locs1 la hP1 hX' hA hS1 hl
  | some a, hb, hrow, kk, hX' =>
    obtain ⟨ha1, ha2⟩ := hb a rfl
    have hsa : sd b a = true := by rw [show b = 1 from hω]; exact ha1
    have hany : va_Any "SignalBlind$Sender" s H (q a) := by
      have hcast := X.2.2.2.2.2.2.2.2.2.2.2.2.2.2.2.2.2.1
      have hia : a ∈ L := hX.2.2.1 a hsa (by intro h0; rw [h0] at ha2; simp [sndK] at ha2)
      obtain ⟨j2, -, hj2⟩ := XL_at (E := E) (q := q) (h := h) hia
      rcases snd_cases ha2 with e | e | e | e | e | e | e
      · rw [cellX_obj e (by omega)] at hj2
        exact va_rAny (r := (RX0, TX0, 3)) X.2.2.2.2.2.1 hP hj2 rfl (vb_asgC (hcast ("SignalBlind$Half", "SignalBlind$Sender") (by simp [nwC])))
      · rw [cellX_obj e (by omega)] at hj2
        exact va_rAny (r := (RX1, TX1, 3)) X.2.2.2.2.2.1 hP hj2 rfl (vb_asgC (hcast ("SignalBlind$Nurse", "SignalBlind$Sender") (by simp [nwC])))
      · rw [cellX_obj e (by omega)] at hj2
        exact va_rAny (r := (RX4, TX4, 3)) X.2.2.2.2.2.1 hP hj2 rfl vb_asgS
      · rw [cellX_obj e (by omega)] at hj2
        exact va_rAny (r := (RX5, TX5, 3)) X.2.2.2.2.2.1 hP hj2 rfl (vb_asgC (hcast ("SignalBlind$Sister", "SignalBlind$Sender") (by simp [nwC])))
      · rw [cellX_obj e (by omega)] at hj2
        exact va_rAny (r := (RX7, TX7, 3)) X.2.2.2.2.2.1 hP hj2 rfl (vb_asgC (hcast ("SignalBlind$Tilted", "SignalBlind$Sender") (by simp [nwC])))
      · rw [cellX_obj e (by omega)] at hj2
        exact va_rAny (r := (RX8, TX8, 3)) X.2.2.2.2.2.1 hP hj2 rfl (vb_asgC (hcast ("SignalBlind$Told", "SignalBlind$Sender") (by simp [nwC])))
      · rw [cellX_obj e (by omega)] at hj2
        exact va_rAny (r := (RX10, TX10, 3)) X.2.2.2.2.2.1 hP hj2 rfl (vb_asgC (hcast ("SignalBlind$Wind", "SignalBlind$Sender") (by simp [nwC])))
    refine va_astqM X.1 X.2.1 X.2.2.2.2.2.1 hP (XL_D hX hA) hS j 4 hj rfl hany hin hd (fun H1 locs1 hP1 hD1 hS1 => ?_)
    rw [XL_set (h' := tR h i x.toNatClampNeg (some a)) hX.1 hLj (hrow.trans (congrArg (fun z => Sum.inl (E 4, n, Sum.inr (Sum.inr (Sum.inr (Sum.inr z))))) (by funext k; by_cases hkx : k = x.toNatClampNeg <;> simp [va_up, aR, tR, up2, hkx]))) (fun j hj => cellX_tR hj)] at hP1
    exact kk H1 locs1 la hP1 hX' hA hS1 hl
-- ===== copies of rows =====
def cpI (h : hp) (i j sp dp n : Nat) : hp := (h.1, h.2.1, (fun a k => if a = j then va_cpy (aI h i) (aI h j) sp dp n k else h.2.2.1 a k), h.2.2.2)
def cpL (h : hp) (i j sp dp n : Nat) : hp := (h.1, h.2.1, h.2.2.1, (fun a k => if a = j then va_cpy (aL h i) (aL h j) sp dp n k else h.2.2.2.1 a k), h.2.2.2.2)
theorem cellX_cpI {E : Nat → ClassId} {q : Nat → Nat} {h : hp} {i j sp dp n a : Nat} (hj : a ≠ j) : cellX E q (cpI h i j sp dp n) a = cellX E q h a := by
  show cellK E q (cpI h i j sp dp n) a (kdOf h a) = cellK E q h a (kdOf h a)
  have h2 : fvs q (cpI h i j sp dp n) a = fvs q h a := fvs_t rfl rfl
  have h3 : aI (cpI h i j sp dp n) a = aI h a := by funext k; simp [aI, cpI, hj]
  simp only [cellK, h2, acn, h3]
  rfl
theorem cellX_cpL {E : Nat → ClassId} {q : Nat → Nat} {h : hp} {i j sp dp n a : Nat} (hj : a ≠ j) : cellX E q (cpL h i j sp dp n) a = cellX E q h a := by
  show cellK E q (cpL h i j sp dp n) a (kdOf h a) = cellK E q h a (kdOf h a)
  have h2 : fvs q (cpL h i j sp dp n) a = fvs q h a := fvs_t rfl rfl
  have h3 : aL (cpL h i j sp dp n) a = aL h a := by funext k; simp [aL, cpL, hj]
  simp only [cellK, h2, acn, h3]
  rfl
theorem aI_cpI {h : hp} {i j sp dp n : Nat} : aI (cpI h i j sp dp n) j = va_cpy (aI h i) (aI h j) sp dp n := by
  funext k; show (if j = j then _ else _) = _; exact if_pos rfl
theorem aL_cpL {h : hp} {i j sp dp n : Nat} : aL (cpL h i j sp dp n) j = va_cpy (aL h i) (aL h j) sp dp n := by
  funext k; show (if j = j then _ else _) = _; exact if_pos rfl
def ckC {α : Type} (sp dp n : Int32) (n0 n1 : Nat) (a : Option α) : Option α := if ¬ sp < 0 ∧ ¬ dp < 0 ∧ ¬ n < 0 ∧ sp.toNatClampNeg + n.toNatClampNeg ≤ n0 ∧ dp.toNatClampNeg + n.toNatClampNeg ≤ n1 then a else none
theorem ckC_some {α : Type} {sp dp n : Int32} {n0 n1 : Nat} {a : Option α} {r : α} (hh : ckC sp dp n n0 n1 a = some r) : (¬ sp < 0 ∧ ¬ dp < 0 ∧ ¬ n < 0 ∧ sp.toNatClampNeg + n.toNatClampNeg ≤ n0 ∧ dp.toNatClampNeg + n.toNatClampNeg ≤ n1) ∧ a = some r := by
  unfold ckC at hh
  by_cases hc : ¬ sp < 0 ∧ ¬ dp < 0 ∧ ¬ n < 0 ∧ sp.toNatClampNeg + n.toNatClampNeg ≤ n0 ∧ dp.toNatClampNeg + n.toNatClampNeg ≤ n1
  · rw [if_pos hc] at hh; exact ⟨hc, hh⟩
  · rw [if_neg hc] at hh; cases hh
theorem x_copyI {ω : XO} {rm : Room} {nL : Nat} {κ : XK} {cc : ByteArray} {own : String} (X : XC ω rm nL κ cc own) {L : List Nat} {q : Nat → Nat} {h : hp} {cells slots pc idx : Nat} {lv : List (Nat × Value)} {rest : List Value} {i j n0 n1 : Nat} {sp dp n : Int32} (hw : ∀ w ∈ ([.methodLink own idx arraycopyName, .native arraycopyName, .static arraycopyName, .initialized "java/lang/System"] : List Cond), w ∈ ALLW) (hs0 : sd ω.2.2.2.1 i = true) (hk0 : kdOf h i = 40 + 10 * n0 + 0) (hs1 : sd ω.2.2.2.1 j = true) (hk1 : kdOf h j = 40 + 10 * n1 + 0) (hc : ¬ sp < 0 ∧ ¬ dp < 0 ∧ ¬ n < 0 ∧ sp.toNatClampNeg + n.toNatClampNeg ≤ n0 ∧ dp.toNatClampNeg + n.toNatClampNeg ≤ n1) (hroom : (rest.map fun v => v.category).sum ≤ 8) (hR : 1 ≤ rm.frames ∧ 8 + (nativeFrameWords "java/lang/System" "arraycopy" 5 + 11) ≤ rm.locals) (hd : decode cc pc = .ok (.invokestatic idx, 3)) (kk : XG ω rm nL κ L q (cpI h i j sp.toNatClampNeg dp.toNatClampNeg n.toNatClampNeg) cells slots (pc + 3) lv rest) : XG ω rm nL κ L q h cells slots pc lv (.int n :: .int dp :: .ref (q j) :: .int sp :: .ref (q i) :: rest) := by
  obtain ⟨l, D, E, b, ζ⟩ := ω
  obtain ⟨p, e2, s, m, args, below, meth, c, Q, A⟩ := κ
  intro H locs la hP hX hA hS hl
  obtain ⟨hx, hb, hml, hown, hts, hK, hlocks, hA0, hz⟩ := X
  obtain ⟨k0, -, h0⟩ := XL_at (E := E) (q := q) (h := h) (hX.2.2.1 i hs0 (by rw [hk0]; omega))
  obtain ⟨k1, hL1, h1⟩ := XL_at (E := E) (q := q) (h := h) (hX.2.2.1 j hs1 (by rw [hk1]; omega))
  rw [cellX_row hk0 (by omega), acn_i (by omega)] at h0
  rw [cellX_row hk1 (by omega), acn_i (by omega)] at h1
  refine va_copyi hx hb (hml.trans hl.1.symm) hown (hts _ (hw _ (by simp))) (hts _ (hw _ (by simp))) (hts _ (hw _ (by simp))) (hts _ (hw _ (by simp))) hK hP (XL_D hX hA) hS k0 k1 0 0 h0 h1 rfl rfl rfl hc.1 hc.2.1 hc.2.2.1 hc.2.2.2.1 hc.2.2.2.2 (fun _ _ => rfl) hR.1 (Nat.le_trans (Nat.add_le_add_right hroom _) hR.2) hd (fun H1 locs1 hP1 hD1 hS1 => ?_)
  rw [XL_set (h' := cpI h i j sp.toNatClampNeg dp.toNatClampNeg n.toNatClampNeg) hX.1 hL1 (by rw [cellX_row (show kdOf (cpI h i j sp.toNatClampNeg dp.toNatClampNeg n.toNatClampNeg) j = _ from hk1) (by omega), acn_i (by omega), aI_cpI]) (fun a ha => cellX_cpI ha)] at hP1
  exact kk H1 locs1 la hP1 hX hA hS1 hl
theorem x_copyL {ω : XO} {rm : Room} {nL : Nat} {κ : XK} {cc : ByteArray} {own : String} (X : XC ω rm nL κ cc own) {L : List Nat} {q : Nat → Nat} {h : hp} {cells slots pc idx : Nat} {lv : List (Nat × Value)} {rest : List Value} {i j n0 n1 : Nat} {sp dp n : Int32} (hw : ∀ w ∈ ([.methodLink own idx arraycopyName, .native arraycopyName, .static arraycopyName, .initialized "java/lang/System"] : List Cond), w ∈ ALLW) (hs0 : sd ω.2.2.2.1 i = true) (hk0 : kdOf h i = 40 + 10 * n0 + 3) (hs1 : sd ω.2.2.2.1 j = true) (hk1 : kdOf h j = 40 + 10 * n1 + 3) (hc : ¬ sp < 0 ∧ ¬ dp < 0 ∧ ¬ n < 0 ∧ sp.toNatClampNeg + n.toNatClampNeg ≤ n0 ∧ dp.toNatClampNeg + n.toNatClampNeg ≤ n1) (hroom : (rest.map fun v => v.category).sum ≤ 8) (hR : 1 ≤ rm.frames ∧ 8 + (nativeFrameWords "java/lang/System" "arraycopy" 5 + 11) ≤ rm.locals) (hd : decode cc pc = .ok (.invokestatic idx, 3)) (kk : XG ω rm nL κ L q (cpL h i j sp.toNatClampNeg dp.toNatClampNeg n.toNatClampNeg) cells slots (pc + 3) lv rest) : XG ω rm nL κ L q h cells slots pc lv (.int n :: .int dp :: .ref (q j) :: .int sp :: .ref (q i) :: rest) := by
  obtain ⟨l, D, E, b, ζ⟩ := ω
  obtain ⟨p, e2, s, m, args, below, meth, c, Q, A⟩ := κ
  intro H locs la hP hX hA hS hl
  obtain ⟨hx, hb, hml, hown, hts, hK, hlocks, hA0, hz⟩ := X
  obtain ⟨k0, -, h0⟩ := XL_at (E := E) (q := q) (h := h) (hX.2.2.1 i hs0 (by rw [hk0]; omega))
  obtain ⟨k1, hL1, h1⟩ := XL_at (E := E) (q := q) (h := h) (hX.2.2.1 j hs1 (by rw [hk1]; omega))
  rw [cellX_row hk0 (by omega), acn_l] at h0
  rw [cellX_row hk1 (by omega), acn_l] at h1
  refine va_copyl hx hb (hml.trans hl.1.symm) hown (hts _ (hw _ (by simp))) (hts _ (hw _ (by simp))) (hts _ (hw _ (by simp))) (hts _ (hw _ (by simp))) hK hP (XL_D hX hA) hS k0 k1 3 3 h0 h1 rfl rfl rfl hc.1 hc.2.1 hc.2.2.1 hc.2.2.2.1 hc.2.2.2.2 (fun _ _ => rfl) hR.1 (Nat.le_trans (Nat.add_le_add_right hroom _) hR.2) hd (fun H1 locs1 hP1 hD1 hS1 => ?_)
  rw [XL_set (h' := cpL h i j sp.toNatClampNeg dp.toNatClampNeg n.toNatClampNeg) hX.1 hL1 (by rw [cellX_row (show kdOf (cpL h i j sp.toNatClampNeg dp.toNatClampNeg n.toNatClampNeg) j = _ from hk1) (by omega), acn_l, aL_cpL]) (fun a ha => cellX_cpL ha)] at hP1
  exact kk H1 locs1 la hP1 hX hA hS1 hl
def mnI (x y : Int32) : Int32 := if y < x then y else x
theorem x_mmin {ω : XO} {rm : Room} {nL : Nat} {κ : XK} {cc : ByteArray} {own : String} (X : XC ω rm nL κ cc own) {L : List Nat} {q : Nat → Nat} {h : hp} {cells slots pc idx : Nat} {lv : List (Nat × Value)} {rest : List Value} {x y : Int32} (hw : ∀ w ∈ ([.methodLink own idx Lib.Math.min.name, .static Lib.Math.min.name, .initialized "java/lang/Math", .code Lib.Math.min.name Lib.Math.min.code 2 (some .int)] : List Cond), w ∈ ALLW) (hroom : (rest.map fun v => v.category).sum ≤ 8) (hR : 1 ≤ rm.frames ∧ 8 + 13 ≤ rm.locals) (hcs : cells ≤ rm.cells ∧ slots ≤ rm.slots) (hd : decode cc pc = .ok (.invokestatic idx, 3)) (k : XG ω rm nL κ L q h cells slots (pc + 3) lv (.int (mnI x y) :: rest)) : XG ω rm nL κ L q h cells slots pc lv (.int y :: .int x :: rest) := by
  obtain ⟨l, D, E, b, ζ⟩ := ω
  obtain ⟨p, e, s, m, args, below, meth, c, Q, A⟩ := κ
  intro H locs la hP hX hA hS hl
  obtain ⟨hx, hb, hml, hown, hts, hK, hlocks, hA0, hz⟩ := X
  exact va_mmin hx hb (hml.trans hl.1.symm) hown (hts _ (hw _ (by simp))) (hts _ (hw _ (by simp))) (hts _ (hw _ (by simp))) (hts _ (hw _ (by simp))) hR.1 (Nat.le_trans (Nat.add_le_add_right hroom _) hR.2) hcs.1 hcs.2 hd (k H locs la hP hX hA hS hl)
def ckH {α : Type} (v : Int32) (a : Option α) : Option α := if narrow .char (.int v) = .int v then a else none
theorem ckH_some {α : Type} {v : Int32} {a : Option α} {r : α} (h : ckH v a = some r) : narrow .char (.int v) = .int v ∧ a = some r := by
  unfold ckH at h
  by_cases hc : narrow .char (.int v) = .int v
  · rw [if_pos hc] at h; exact ⟨hc, h⟩
  · rw [if_neg hc] at h; cases h
theorem x_retSC {ω : XO} {rm : Room} {nL : Nat} {κ : XK} {cc : ByteArray} {own : String} (X : XC ω rm nL κ cc own) {L : List Nat} {q : Nat → Nat} {h h' : hp} {r v : Int32} (R : XRet ω rm κ (some .char) L q h' (some (.int r))) (hn : narrow .char (.int v) = .int v) (hf : some (h, v) = some (h', r)) {pc : Nat} {lv : List (Nat × Value)} (hd : decode cc pc = .ok (.ireturn, 1)) : XG ω rm nL κ L q h 0 0 pc lv [.int v] := by
  obtain ⟨e1, e2⟩ := Prod.mk.injEq .. ▸ Option.some.inj hf
  subst e1; subst e2
  exact x_ret X R (Nat.zero_le _) (Nat.zero_le _) (Or.inr (Or.inr (Or.inl ⟨rfl, hn⟩))) hd
theorem x_retRC {ω : XO} {rm : Room} {nL : Nat} {κ : XK} {cc : ByteArray} {own : String} (X : XC ω rm nL κ cc own) {L : List Nat} {q : Nat → Nat} {h : hp} {r v : Int32} (R : XRet ω rm κ (some .char) L q h (some (.int r))) (hn : narrow .char (.int v) = .int v) (hf : some v = some r) {pc : Nat} {lv : List (Nat × Value)} (hd : decode cc pc = .ok (.ireturn, 1)) : XG ω rm nL κ L q h 0 0 pc lv [.int v] := by
  cases hf
  exact x_ret X R (Nat.zero_le _) (Nat.zero_le _) (Or.inr (Or.inr (Or.inl ⟨rfl, hn⟩))) hd
-- ===== a call of the class above that a class further up declares =====
theorem ww_sub {vm : Vm} {c d : ClassId} {k : Class} (hk : vm.classes[c]? = some k) (hs : k.super = some d) : vm.isSubclass c d = true := by
  have hlt : 0 < vm.classes.size := Nat.lt_of_le_of_lt (Nat.zero_le _) (Array.getElem?_eq_some_iff.mp hk).1
  obtain ⟨n, hn⟩ : ∃ n, vm.classes.size = n + 1 := ⟨vm.classes.size - 1, by omega⟩
  simp [Vm.isSubclass, hn, Vm.isSubclassAux, hk, hs]
theorem x_callSI {ω : XO} {rm : Room} {nL : Nat} {κ : XK} {cc : ByteArray} {own : String} (X : XC ω rm nL κ cc own) {L : List Nat} {q : Nat → Nat} {h h' : hp} {cells slots pc : Nat} {lv : List (Nat × Value)} {st : List Value} {v : Option Value} {x y : MethodName} {bytes : ByteArray} {maxL idx i ci : Nat} {rt : Option FieldType} {rm2 : Room} {C owner : String} {T : u_T} {N : Nat} (As rest : List Value)
    (hM : XM ω y bytes maxL rt rm2 L q h (.ref (q i) :: As) v h') (hyx : y = ⟨owner, x.name, x.desc⟩) (hl0 : ∀ w ∈ ([.methodLink own idx x, .sameMethod x.cls owner x.name x.desc, .superclass own x.cls, .superclass x.cls owner, .instanceMethod y, .initialized y.cls] : List Cond), w ∈ ALLW) (hcode : Cond.code y bytes maxL rt ∈ ALLW) (hd1 : y.name ≠ "<init>" ∧ (parseMethodDescriptor y.desc).map (fun d => d.parameters.length) = some As.length) (hR : rm2.frames + 1 ≤ rm.frames ∧ 8 + (maxL + 11) + rm2.locals ≤ rm.locals) (h0 : rm2.cells = 0 ∧ rm2.slots = 0) (hcs : cells ≤ rm.cells ∧ slots ≤ rm.slots)
    (hs : sd ω.2.2.2.1 i = true) (hk : kdOf h i = ci + 1) (hci : ci < 19) (hc : vwCl[ci]? = some (C, T, N)) (hst : st = As.reverse ++ .ref (q i) :: rest) (hroom : (rest.map fun v => v.category).sum ≤ 8) (hd : decode cc pc = .ok (.invokespecial idx, 3))
    (kk : XG ω rm nL κ L q h' cells slots (pc + 3) lv (v.toList ++ rest)) : XG ω rm nL κ L q h cells slots pc lv st := by
  refine xg_call (a := (Value.ref (q i) :: As).toArray) X h0 (fun H locs la hP hX hA hS hl => ?_) kk
  have X2 := X
  have hpre := fun (U : State) (hU : U.heap = H) hW => xb_pre X (as := .ref (q i) :: As) hP hX hA hS hU hW
  have hrc := xg_frame X hP hX hs hk hci hc
  obtain ⟨l, D, E, b, ζ⟩ := ω
  obtain ⟨p, e, s, m, args, below, meth, c, Q, A⟩ := κ
  obtain ⟨hx, hb, hml, hown, hts, hK, hlocks, hA0, hz⟩ := X2
  have ok : ∀ w ∈ ([.methodLink own idx x, .sameMethod x.cls owner x.name x.desc, .superclass own x.cls, .superclass x.cls owner, .instanceMethod y, .initialized y.cls] : List Cond), w.before args s = true := fun w hw => hts w (hl0 w hw)
  have hlink : (Cond.methodLink own idx x).before args s = true := ok _ (by simp)
  have hsame : (Cond.sameMethod x.cls owner x.name x.desc).before args s = true := ok _ (by simp)
  have hsup : (Cond.superclass own x.cls).before args s = true := ok _ (by simp)
  have hsup2 : (Cond.superclass x.cls owner).before args s = true := ok _ (by simp)
  have hinst : (Cond.instanceMethod y).before args s = true := ok _ (by simp)
  have hini : (Cond.initialized y.cls).before args s = true := ok _ (by simp)
  have hcd := hts _ hcode
  have hG : GoodIn ALLW (wA y bytes maxL rt) := goodA (ws := []) hcode (fun w hw => by cases hw)
  have hKb : Back l rm p e below s args y 3 8 (PreOf rm rm2.cells rm2.slots (va_Pc (Value.ref (q i) :: As) (XB (l, D, E, b, ζ) L q h H.size))) (PostOf (XQ (l, D, E, b, ζ) L q h' v H.size) rm2.cells rm2.slots (XA L q H.size)) :=
    back_of (bytes := bytes) (maxL := maxL) (ret := rt) (hM H.size) xb_blind rfl rfl hR.1 hR.2 (pay_in hts hG) List.mem_cons_self (fun a' U hW => word_at hW (Or.inl (by first | rfl | simp [Cond.onTables, Cond.keeps, Cond.steady])) hini)
  obtain ⟨mk, methM, hnamed, hmethM, hstM, habM⟩ := Cond.instanceMethod_spec hinst
  obtain ⟨methM', cM, hmethM', -, -, -, -, -, -, hsigM⟩ := Cond.code_spec hnamed hcd
  cases hmethM.symm.trans hmethM'
  obtain ⟨ps, dk, kp, hps, hdk, hkp, hsuper, -, -, hnid⟩ := Cond.superclass_spec hown hsup
  obtain ⟨ps2, dk2, kp2, hps2, hdk2, hkp2, hsuper2, -, -, -⟩ := Cond.superclass_spec hps hsup2
  have hn : s.methodNamed? ⟨owner, x.name, x.desc⟩ = some mk := by rw [← hyx]; exact hnamed
  have hpm : ps2 = mk.cls := Option.some.inj (hps2.symm.trans (by have := findClass_of_methodNamed hn; exact this))
  have hsub : s.vm.isSubclass ps mk.cls = true := by rw [← hpm]; exact ww_sub hdk2 hsuper2
  have hnx : x.name ≠ "<init>" := by have := hd1.1; rw [hyx] at this; exact this
  obtain ⟨cellB, hcB, hoB, hclB⟩ := hrc
  obtain ⟨hfc, kB, hkB, -⟩ := (hK.1 ci _ hc).2
  rw [Option.some.inj (hfc.symm.trans hclB)] at hkB
  have hsigL : As.length = methM.sig.parameters.length := by
    have h2 := hd1.2
    rw [hsigM] at h2
    exact (Option.some.inj h2).symm
  intro T hT XS
  obtain ⟨vm₁, X₁, hstep₁⟩ := XS.invokespecialUp hx (owner := owner) (x := x) hown hlink hsame hn hmethM hstM habM hnx hdk hnid hps hsuper hsub (a := q i) (cell := cellB) (by rw [hT]; exact hcB)
    (fun z h => by rw [h] at hoB; cases hoB) hkB (g := F0 m pc la st) rfl (argsL := As) (rest := rest) hsigL hst (by rw [hb]; exact hd)
  obtain ⟨v1, B, X', hpost, hsteps⟩ := hKb m meth c ⟨T.setVm vm₁, locs, cells, slots⟩ { (F0 m pc la st) with stack := rest } (.invokespecial idx) mk (Value.ref (q i) :: As).toArray X₁ rfl (hl.1.trans hml.symm) (by rw [hb]; exact hd) (lv_room (pc := pc) (m := m) (ls := la) (rest := rest) hroom) (by rw [hyx]; exact X₁.named hn) ⟨by rw [h0.1]; exact hcs.1, by rw [h0.2]; exact hcs.2, hpre (T.setVm vm₁) hT X₁.warmed⟩
  obtain ⟨U', l2, c2, s2⟩ := B
  obtain ⟨g', mk2, t, L2, e1, e2, hq, h1, hL, h2, h3⟩ := hpost
  dsimp only [Pt.U, Pt.locs, Pt.cells, Pt.slots] at X' e1 e2 h1 h2 h3 hsteps
  subst h1; subst h2; subst h3
  exact ⟨v1, (T.setVm vm₁).calling g' mk2 (Value.ref (q i) :: As).toArray, t, U', L2, hT, X', hL, e1, e2, hq, fun tg h => hstep₁ _ (by rw [doInvoke_state]; exact hsteps.trans h)⟩
-- ===== the five text constants =====
def ckT {α : Type} (k : Nat) (a : Option α) : Option α := if k < 5 then a else none
theorem ckT_some {α : Type} {k : Nat} {a : Option α} {r : α} (h : ckT k a = some r) : k < 5 ∧ a = some r := by
  unfold ckT at h
  by_cases hc : k < 5
  · rw [if_pos hc] at h; exact ⟨hc, h⟩
  · rw [if_neg hc] at h; cases h
def svlen (k : Nat) : Nat := xz_len.getD k 0
def svb (k j : Nat) : Int32 := (xz_byt.getD k []).getD j 0
theorem x_strC {ω : XO} {rm : Room} {nL : Nat} {κ : XK} {cc : ByteArray} {own : String} (X : XC ω rm nL κ cc own) {L : List Nat} {q : Nat → Nat} {h : hp} {cells slots pc idx : Nat} {lv : List (Nat × Value)} {rest : List Value} {k : Nat} (hk : k < 5) (hl0 : Cond.fieldLink own idx "java/lang/String" "coder" "B" ∈ ALLW) (hd : decode cc pc = .ok (.getfield idx, 3)) (kk : XG ω rm nL κ L q h cells slots (pc + 3) lv (.int (0 : Int32) :: rest)) : XG ω rm nL κ L q h cells slots pc lv (.ref (ω.2.2.2.2.1 k) :: rest) := by
  obtain ⟨l, D, E, b, ζ⟩ := ω
  obtain ⟨p, e, s, m, args, below, meth, c, Q, A⟩ := κ
  intro H locs la hP hX hA hS hl
  have hz : vk_S 5 xz_len xz_byt ζ.1 ζ.2 A s s.heap := X.2.2.2.2.2.2.2.2.2.2.2.2.2.2.2.1
  exact vk_getf X.1 X.2.1 (hz.1 k hk).2.1 hS X.2.2.2.1 (X.2.2.2.2.1 _ hl0) (fun x hx => hx) hd (kk H locs la hP hX hA hS hl)
theorem x_strV {ω : XO} {rm : Room} {nL : Nat} {κ : XK} {cc : ByteArray} {own : String} (X : XC ω rm nL κ cc own) {L : List Nat} {q : Nat → Nat} {h : hp} {cells slots pc idx : Nat} {lv : List (Nat × Value)} {rest : List Value} {k : Nat} (hk : k < 5) (hl0 : Cond.fieldLink own idx "java/lang/String" "value" "[B" ∈ ALLW) (hd : decode cc pc = .ok (.getfield idx, 3)) (kk : XG ω rm nL κ L q h cells slots (pc + 3) lv (.ref (ω.2.2.2.2.2 k) :: rest)) : XG ω rm nL κ L q h cells slots pc lv (.ref (ω.2.2.2.2.1 k) :: rest) := by
  obtain ⟨l, D, E, b, ζ⟩ := ω
  obtain ⟨p, e, s, m, args, below, meth, c, Q, A⟩ := κ
  intro H locs la hP hX hA hS hl
  have hz : vk_S 5 xz_len xz_byt ζ.1 ζ.2 A s s.heap := X.2.2.2.2.2.2.2.2.2.2.2.2.2.2.2.1
  exact vk_getf X.1 X.2.1 (hz.1 k hk).2.2.1 hS X.2.2.2.1 (X.2.2.2.2.1 _ hl0) (fun x hx => hx) hd (kk H locs la hP hX hA hS hl)
theorem x_svlen {ω : XO} {rm : Room} {nL : Nat} {κ : XK} {cc : ByteArray} {own : String} (X : XC ω rm nL κ cc own) {L : List Nat} {q : Nat → Nat} {h : hp} {cells slots pc : Nat} {lv : List (Nat × Value)} {rest : List Value} {k : Nat} (hk : k < 5) (hd : decode cc pc = .ok (.arraylength, 1)) (kk : XG ω rm nL κ L q h cells slots (pc + 1) lv (.int (Int32.ofNat (svlen k)) :: rest)) : XG ω rm nL κ L q h cells slots pc lv (.ref (ω.2.2.2.2.2 k) :: rest) := by
  obtain ⟨l, D, E, b, ζ⟩ := ω
  obtain ⟨p, e, s, m, args, below, meth, c, Q, A⟩ := κ
  intro H locs la hP hX hA hS hl
  have hz : vk_S 5 xz_len xz_byt ζ.1 ζ.2 A s s.heap := X.2.2.2.2.2.2.2.2.2.2.2.2.2.2.2.1
  exact va_tlen X.1 X.2.1 (hz.1 k hk).2.2.2 hS rfl hd (kk H locs la hP hX hA hS hl)
theorem x_svld {ω : XO} {rm : Room} {nL : Nat} {κ : XK} {cc : ByteArray} {own : String} (X : XC ω rm nL κ cc own) {L : List Nat} {q : Nat → Nat} {h : hp} {cells slots pc : Nat} {lv : List (Nat × Value)} {rest : List Value} {k : Nat} {x : Int32} (hk : k < 5) (hin : vp_in x (svlen k)) (hd : decode cc pc = .ok (.baload, 1)) (kk : XG ω rm nL κ L q h cells slots (pc + 1) lv (.int (svb k x.toNatClampNeg) :: rest)) : XG ω rm nL κ L q h cells slots pc lv (.int x :: .ref (ω.2.2.2.2.2 k) :: rest) := by
  obtain ⟨l, D, E, b, ζ⟩ := ω
  obtain ⟨p, e, s, m, args, below, meth, c, Q, A⟩ := κ
  intro H locs la hP hX hA hS hl
  have hz : vk_S 5 xz_len xz_byt ζ.1 ζ.2 A s s.heap := X.2.2.2.2.2.2.2.2.2.2.2.2.2.2.2.1
  exact va_tb X.1 X.2.1 (hz.1 k hk).2.2.2 hS hin rfl hd (kk H locs la hP hX hA hS hl)
def zsIdx : List Nat := [54, 60, 85, 87, 89]
theorem x_ldcS {ω : XO} {rm : Room} {nL : Nat} {κ : XK} {cc : ByteArray} (X : XC ω rm nL κ cc "SignalBlind$Ward") {L : List Nat} {q : Nat → Nat} {h : hp} {cells slots pc idx : Nat} {lv : List (Nat × Value)} {rest : List Value} (k : Nat) (hk : zsIdx[k]? = some idx) (hd : decode cc pc = .ok (.ldc idx, 2)) (kk : XG ω rm nL κ L q h cells slots (pc + 2) lv (.ref (ω.2.2.2.2.1 k) :: rest)) : XG ω rm nL κ L q h cells slots pc lv rest := by
  obtain ⟨l, D, E, b, ζ⟩ := ω
  obtain ⟨p, e, s, m, args, below, meth, c, Q, A⟩ := κ
  intro H locs la hP hX hA hS hl
  obtain ⟨hx, hb, hml, hown, hts, hK, hlocks, hA0, hz⟩ := X
  match k, hk, kk with
  | 0, hk, kk => cases hk; exact va_ldcS hx hb hown hz.2.2.1 hd (kk H locs la hP hX hA hS hl)
  | 1, hk, kk => cases hk; exact va_ldcS hx hb hown hz.2.2.2.1 hd (kk H locs la hP hX hA hS hl)
  | 2, hk, kk => cases hk; exact va_ldcS hx hb hown hz.2.2.2.2.1 hd (kk H locs la hP hX hA hS hl)
  | 3, hk, kk => cases hk; exact va_ldcS hx hb hown hz.2.2.2.2.2.1 hd (kk H locs la hP hX hA hS hl)
  | 4, hk, kk => cases hk; exact va_ldcS hx hb hown hz.2.2.2.2.2.2.1 hd (kk H locs la hP hX hA hS hl)
  | n + 5, hk, kk => simp [zsIdx] at hk
theorem x_callVS {ω : XO} {rm : Room} {nL : Nat} {κ : XK} {cc : ByteArray} {own : String} (X : XC ω rm nL κ cc own) {L : List Nat} {q : Nat → Nat} {h h' : hp} {cells slots pc : Nat} {lv : List (Nat × Value)} {st : List Value} {v : Option Value} {y : MethodName} {bytes : ByteArray} {maxL idx k : Nat} {rt : Option FieldType} {rm2 : Room} (As rest : List Value)
    (hM : XM ω y bytes maxL rt rm2 L q h (.ref (ω.2.2.2.2.1 k) :: As) v h') (hT : MT y bytes maxL rt "java/lang/String" As.length) (hl0 : Cond.methodLink own idx y ∈ ALLW) (hR : rm2.frames + 1 ≤ rm.frames ∧ 8 + (maxL + 11) + rm2.locals ≤ rm.locals) (h0 : rm2.cells = 0 ∧ rm2.slots = 0) (hcs : cells ≤ rm.cells ∧ slots ≤ rm.slots)
    (hk : k < 5) (hst : st = As.reverse ++ .ref (ω.2.2.2.2.1 k) :: rest) (hroom : (rest.map fun v => v.category).sum ≤ 8) (hd : decode cc pc = .ok (.invokevirtual idx, 3))
    (kk : XG ω rm nL κ L q h' cells slots (pc + 3) lv (v.toList ++ rest)) : XG ω rm nL κ L q h cells slots pc lv st := by
  refine xg_call (a := (Value.ref (ω.2.2.2.2.1 k) :: As).toArray) X h0 (fun H locs la hP hX hA hS hl => ?_) kk
  have X2 := X
  have hpre := fun (U : State) (hU : U.heap = H) hW => xb_pre X (as := .ref (ω.2.2.2.2.1 k) :: As) hP hX hA hS hU hW
  obtain ⟨l, D, E, b, ζ⟩ := ω
  obtain ⟨p, e, s, m, args, below, meth, c, Q, A⟩ := κ
  obtain ⟨hx, hb, hml, hown, hts, hK, hlocks, hA0, hz⟩ := X2
  have hz8 : vk_S 5 xz_len xz_byt ζ.1 ζ.2 A s s.heap := hz.2.2.2.2.2.2.2.1
  obtain ⟨m1, m2, m3, m4, m5⟩ := hT
  have hG : GoodIn ALLW (wsV own idx "java/lang/String" y (wA y bytes maxL rt)) := goodA m4 (by
    intro w hw
    simp only [List.mem_cons, List.not_mem_nil, or_false] at hw
    rcases hw with rfl | rfl | rfl | rfl <;> assumption)
  exact va_runV (As := As) (rest := rest) ⟨hx, hb, hml, hown, hts⟩ (hM H.size) (cwV As.length hts hG rfl rfl rfl m5 hR) ⟨xb_blind, vk_recv hz8 hk hS, hpre⟩ rfl rfl hl.1 hst (lv_room hroom) hd ⟨by rw [h0.1]; exact hcs.1, by rw [h0.2]; exact hcs.2⟩
def mxI (x y : Int32) : Int32 := if x < y then y else x
theorem x_mmax {ω : XO} {rm : Room} {nL : Nat} {κ : XK} {cc : ByteArray} {own : String} (X : XC ω rm nL κ cc own) {L : List Nat} {q : Nat → Nat} {h : hp} {cells slots pc idx : Nat} {lv : List (Nat × Value)} {rest : List Value} {x y : Int32} (hw : ∀ w ∈ ([.methodLink own idx Lib.Math.max.name, .static Lib.Math.max.name, .initialized "java/lang/Math", .code Lib.Math.max.name Lib.Math.max.code 2 (some .int)] : List Cond), w ∈ ALLW) (hroom : (rest.map fun v => v.category).sum ≤ 8) (hR : 1 ≤ rm.frames ∧ 8 + 13 ≤ rm.locals) (hcs : cells ≤ rm.cells ∧ slots ≤ rm.slots) (hd : decode cc pc = .ok (.invokestatic idx, 3)) (k : XG ω rm nL κ L q h cells slots (pc + 3) lv (.int (mxI x y) :: rest)) : XG ω rm nL κ L q h cells slots pc lv (.int y :: .int x :: rest) := by
  obtain ⟨l, D, E, b, ζ⟩ := ω
  obtain ⟨p, e, s, m, args, below, meth, c, Q, A⟩ := κ
  intro H locs la hP hX hA hS hl
  obtain ⟨hx, hb, hml, hown, hts, hK, hlocks, hA0, hz⟩ := X
  exact va_mmax hx hb (hml.trans hl.1.symm) hown (hts _ (hw _ (by simp))) (hts _ (hw _ (by simp))) (hts _ (hw _ (by simp))) (hts _ (hw _ (by simp))) hR.1 (Nat.le_trans (Nat.add_le_add_right hroom _) hR.2) hcs.1 hcs.2 hd (k H locs la hP hX hA hS hl)
theorem x_retVR {ω : XO} {rm : Room} {nL : Nat} {κ : XK} {cc : ByteArray} {own : String} (X : XC ω rm nL κ cc own) {L : List Nat} {q : Nat → Nat} {h : hp} {r v : Unit} (R : XRet ω rm κ none L q h none) (hf : some v = some r) {pc : Nat} {lv : List (Nat × Value)} (hd : decode cc pc = .ok (.return_, 1)) : XG ω rm nL κ L q h 0 0 pc lv [] :=
  x_vret X R (Nat.zero_le _) (Nat.zero_le _) hd
def ckB {α : Type} (v : Int32) (a : Option α) : Option α := if narrow .byte (.int v) = .int v then a else none
theorem ckB_some {α : Type} {v : Int32} {a : Option α} {r : α} (h : ckB v a = some r) : narrow .byte (.int v) = .int v ∧ a = some r := by
  unfold ckB at h
  by_cases hc : narrow .byte (.int v) = .int v
  · rw [if_pos hc] at h; exact ⟨hc, h⟩
  · rw [if_neg hc] at h; cases h
theorem x_retRB {ω : XO} {rm : Room} {nL : Nat} {κ : XK} {cc : ByteArray} {own : String} (X : XC ω rm nL κ cc own) {L : List Nat} {q : Nat → Nat} {h : hp} {r v : Int32} (R : XRet ω rm κ (some .byte) L q h (some (.int r))) (hn : narrow .byte (.int v) = .int v) (hf : some v = some r) {pc : Nat} {lv : List (Nat × Value)} (hd : decode cc pc = .ok (.ireturn, 1)) : XG ω rm nL κ L q h 0 0 pc lv [.int v] := by
  cases hf
  exact x_ret X R (Nat.zero_le _) (Nat.zero_le _) (Or.inr (Or.inr (Or.inr ⟨rfl, hn⟩))) hd
theorem x_getS_X11_119 {ω : XO} {rm : Room} {nL : Nat} {κ : XK} {cc : ByteArray} (X : XC ω rm nL κ cc "SignalBlind") (hω : ω.2.2.2.1 = 1) {L : List Nat} {q : Nat → Nat} {h : hp} {cells slots pc : Nat} {lv : List (Nat × Value)} {rest : List Value} {o : Nat} (hb : sd 1 o = true ∧ kdOf h o ∈ sndK) (hd : decode cc pc = .ok (.getfield 119, 3)) (kk : XG ω rm nL κ L q h cells slots (pc + 3) lv (.int (hI h o 1) :: rest)) : XG ω rm nL κ L q h cells slots pc lv (.ref (q o) :: rest) := by
  have hs := sd_of hω hb.1
  rcases snd_cases hb.2 with e | e | e | e | e | e | e
  · exact x_geti X fl_X11_119_1 hs e rfl hd kk
  · exact x_geti X fl_X11_119_2 hs e rfl hd kk
  · exact x_geti X fl_X11_119_5 hs e rfl hd kk
  · exact x_geti X fl_X11_119_6 hs e rfl hd kk
  · exact x_geti X fl_X11_119_8 hs e rfl hd kk
  · exact x_geti X fl_X11_119_9 hs e rfl hd kk
  · exact x_geti X fl_X11_119_11 hs e rfl hd kk
theorem x_getS_X11_124 {ω : XO} {rm : Room} {nL : Nat} {κ : XK} {cc : ByteArray} (X : XC ω rm nL κ cc "SignalBlind") (hω : ω.2.2.2.1 = 1) {L : List Nat} {q : Nat → Nat} {h : hp} {cells slots pc : Nat} {lv : List (Nat × Value)} {rest : List Value} {o : Nat} (hb : sd 1 o = true ∧ kdOf h o ∈ sndK) (hd : decode cc pc = .ok (.getfield 124, 3)) (kk : XG ω rm nL κ L q h cells slots (pc + 3) lv (.int (hI h o 2) :: rest)) : XG ω rm nL κ L q h cells slots pc lv (.ref (q o) :: rest) := by
  have hs := sd_of hω hb.1
  rcases snd_cases hb.2 with e | e | e | e | e | e | e
  · exact x_geti X fl_X11_124_1 hs e rfl hd kk
  · exact x_geti X fl_X11_124_2 hs e rfl hd kk
  · exact x_geti X fl_X11_124_5 hs e rfl hd kk
  · exact x_geti X fl_X11_124_6 hs e rfl hd kk
  · exact x_geti X fl_X11_124_8 hs e rfl hd kk
  · exact x_geti X fl_X11_124_9 hs e rfl hd kk
  · exact x_geti X fl_X11_124_11 hs e rfl hd kk
theorem x_getS_X4_7 {ω : XO} {rm : Room} {nL : Nat} {κ : XK} {cc : ByteArray} (X : XC ω rm nL κ cc "SignalBlind$Sender") (hω : ω.2.2.2.1 = 1) {L : List Nat} {q : Nat → Nat} {h : hp} {cells slots pc : Nat} {lv : List (Nat × Value)} {rest : List Value} {o : Nat} (hb : sd 1 o = true ∧ kdOf h o ∈ sndK) (hd : decode cc pc = .ok (.getfield 7, 3)) (kk : XG ω rm nL κ L q h cells slots (pc + 3) lv (.int (hI h o 0) :: rest)) : XG ω rm nL κ L q h cells slots pc lv (.ref (q o) :: rest) := by
  have hs := sd_of hω hb.1
  rcases snd_cases hb.2 with e | e | e | e | e | e | e
  · exact x_geti X fl_X4_7_1 hs e rfl hd kk
  · exact x_geti X fl_X4_7_2 hs e rfl hd kk
  · exact x_geti X fl_X4_7_5 hs e rfl hd kk
  · exact x_geti X fl_X4_7_6 hs e rfl hd kk
  · exact x_geti X fl_X4_7_8 hs e rfl hd kk
  · exact x_geti X fl_X4_7_9 hs e rfl hd kk
  · exact x_geti X fl_X4_7_11 hs e rfl hd kk
theorem x_getS_X4_16 {ω : XO} {rm : Room} {nL : Nat} {κ : XK} {cc : ByteArray} (X : XC ω rm nL κ cc "SignalBlind$Sender") (hω : ω.2.2.2.1 = 1) {L : List Nat} {q : Nat → Nat} {h : hp} {cells slots pc : Nat} {lv : List (Nat × Value)} {rest : List Value} {o : Nat} (hb : sd 1 o = true ∧ kdOf h o ∈ sndK) (hd : decode cc pc = .ok (.getfield 16, 3)) (kk : XG ω rm nL κ L q h cells slots (pc + 3) lv (.int (hI h o 2) :: rest)) : XG ω rm nL κ L q h cells slots pc lv (.ref (q o) :: rest) := by
  have hs := sd_of hω hb.1
  rcases snd_cases hb.2 with e | e | e | e | e | e | e
  · exact x_geti X fl_X4_16_1 hs e rfl hd kk
  · exact x_geti X fl_X4_16_2 hs e rfl hd kk
  · exact x_geti X fl_X4_16_5 hs e rfl hd kk
  · exact x_geti X fl_X4_16_6 hs e rfl hd kk
  · exact x_geti X fl_X4_16_8 hs e rfl hd kk
  · exact x_geti X fl_X4_16_9 hs e rfl hd kk
  · exact x_geti X fl_X4_16_11 hs e rfl hd kk
theorem x_inst_143 {ω : XO} {rm : Room} {nL : Nat} {κ : XK} {cc : ByteArray} (X : XC ω rm nL κ cc "SignalBlind") (hω : ω.2.2.2.1 = 1) {L : List Nat} {q : Nat → Nat} {h : hp} {cells slots pc : Nat} {lv : List (Nat × Value)} {rest : List Value} {o : Nat} (hb : sd 1 o = true ∧ kdOf h o ∈ sndK) (hd : decode cc pc = .ok (.instanceof 143, 3)) (kk : XG ω rm nL κ L q h cells slots (pc + 3) lv (.int (isK h o [10]) :: rest)) : XG ω rm nL κ L q h cells slots pc lv (.ref (q o) :: rest) := by
  have hs := sd_of hω hb.1
  rcases snd_cases hb.2 with e | e | e | e | e | e | e
  · rw [show isK h o [10] = 0 from by simp [isK, e]] at kk
    exact x_instNo X (mT_2 93 rfl rfl) hs e (by decide) rfl (by simp [ncL, RX0, RX1, RX4, RX5, RX7, RX8, RX10]) hd kk
  · rw [show isK h o [10] = 0 from by simp [isK, e]] at kk
    exact x_instNo X (mT_2 93 rfl rfl) hs e (by decide) rfl (by simp [ncL, RX0, RX1, RX4, RX5, RX7, RX8, RX10]) hd kk
  · rw [show isK h o [10] = 0 from by simp [isK, e]] at kk
    exact x_instNo X (mT_2 93 rfl rfl) hs e (by decide) rfl (by simp [ncL, RX0, RX1, RX4, RX5, RX7, RX8, RX10]) hd kk
  · rw [show isK h o [10] = 0 from by simp [isK, e]] at kk
    exact x_instNo X (mT_2 93 rfl rfl) hs e (by decide) rfl (by simp [ncL, RX0, RX1, RX4, RX5, RX7, RX8, RX10]) hd kk
  · rw [show isK h o [10] = 0 from by simp [isK, e]] at kk
    exact x_instNo X (mT_2 93 rfl rfl) hs e (by decide) rfl (by simp [ncL, RX0, RX1, RX4, RX5, RX7, RX8, RX10]) hd kk
  · rw [show isK h o [10] = 1 from by simp [isK, e]] at kk
    exact x_instE X (mT_2 93 rfl rfl) hs e (by decide) rfl rfl hd kk
  · rw [show isK h o [10] = 0 from by simp [isK, e]] at kk
    exact x_instNo X (mT_2 93 rfl rfl) hs e (by decide) rfl (by simp [ncL, RX0, RX1, RX4, RX5, RX7, RX8, RX10]) hd kk
theorem x_inst_305 {ω : XO} {rm : Room} {nL : Nat} {κ : XK} {cc : ByteArray} (X : XC ω rm nL κ cc "SignalBlind") (hω : ω.2.2.2.1 = 1) {L : List Nat} {q : Nat → Nat} {h : hp} {cells slots pc : Nat} {lv : List (Nat × Value)} {rest : List Value} {o : Nat} (hb : sd 1 o = true ∧ kdOf h o ∈ sndK) (hd : decode cc pc = .ok (.instanceof 305, 3)) (kk : XG ω rm nL κ L q h cells slots (pc + 3) lv (.int (isK h o [9, 7]) :: rest)) : XG ω rm nL κ L q h cells slots pc lv (.ref (q o) :: rest) := by
  have hs := sd_of hω hb.1
  rcases snd_cases hb.2 with e | e | e | e | e | e | e
  · rw [show isK h o [9, 7] = 0 from by simp [isK, e]] at kk
    exact x_instNo X (mT_2 28 rfl rfl) hs e (by decide) rfl (by simp [ncL, RX0, RX1, RX4, RX5, RX7, RX8, RX10]) hd kk
  · rw [show isK h o [9, 7] = 0 from by simp [isK, e]] at kk
    exact x_instNo X (mT_2 28 rfl rfl) hs e (by decide) rfl (by simp [ncL, RX0, RX1, RX4, RX5, RX7, RX8, RX10]) hd kk
  · rw [show isK h o [9, 7] = 0 from by simp [isK, e]] at kk
    exact x_instNo X (mT_2 28 rfl rfl) hs e (by decide) rfl (by simp [ncL, RX0, RX1, RX4, RX5, RX7, RX8, RX10]) hd kk
  · rw [show isK h o [9, 7] = 1 from by simp [isK, e]] at kk
    exact x_instY X (mT_2 28 rfl rfl) hs e (by decide) rfl (by simp [nwC, RX0, RX1, RX4, RX5, RX7, RX8, RX10]) hd kk
  · rw [show isK h o [9, 7] = 1 from by simp [isK, e]] at kk
    exact x_instE X (mT_2 28 rfl rfl) hs e (by decide) rfl rfl hd kk
  · rw [show isK h o [9, 7] = 0 from by simp [isK, e]] at kk
    exact x_instNo X (mT_2 28 rfl rfl) hs e (by decide) rfl (by simp [ncL, RX0, RX1, RX4, RX5, RX7, RX8, RX10]) hd kk
  · rw [show isK h o [9, 7] = 0 from by simp [isK, e]] at kk
    exact x_instNo X (mT_2 28 rfl rfl) hs e (by decide) rfl (by simp [ncL, RX0, RX1, RX4, RX5, RX7, RX8, RX10]) hd kk
theorem x_inst_310 {ω : XO} {rm : Room} {nL : Nat} {κ : XK} {cc : ByteArray} (X : XC ω rm nL κ cc "SignalBlind") (hω : ω.2.2.2.1 = 1) {L : List Nat} {q : Nat → Nat} {h : hp} {cells slots pc : Nat} {lv : List (Nat × Value)} {rest : List Value} {o : Nat} (hb : sd 1 o = true ∧ kdOf h o ∈ sndK) (hd : decode cc pc = .ok (.instanceof 310, 3)) (kk : XG ω rm nL κ L q h cells slots (pc + 3) lv (.int (isK h o [2, 12]) :: rest)) : XG ω rm nL κ L q h cells slots pc lv (.ref (q o) :: rest) := by
  have hs := sd_of hω hb.1
  rcases snd_cases hb.2 with e | e | e | e | e | e | e
  · rw [show isK h o [2, 12] = 1 from by simp [isK, e]] at kk
    exact x_instE X (mT_2 53 rfl rfl) hs e (by decide) rfl rfl hd kk
  · rw [show isK h o [2, 12] = 0 from by simp [isK, e]] at kk
    exact x_instNo X (mT_2 53 rfl rfl) hs e (by decide) rfl (by simp [ncL, RX0, RX1, RX4, RX5, RX7, RX8, RX10]) hd kk
  · rw [show isK h o [2, 12] = 0 from by simp [isK, e]] at kk
    exact x_instNo X (mT_2 53 rfl rfl) hs e (by decide) rfl (by simp [ncL, RX0, RX1, RX4, RX5, RX7, RX8, RX10]) hd kk
  · rw [show isK h o [2, 12] = 0 from by simp [isK, e]] at kk
    exact x_instNo X (mT_2 53 rfl rfl) hs e (by decide) rfl (by simp [ncL, RX0, RX1, RX4, RX5, RX7, RX8, RX10]) hd kk
  · rw [show isK h o [2, 12] = 0 from by simp [isK, e]] at kk
    exact x_instNo X (mT_2 53 rfl rfl) hs e (by decide) rfl (by simp [ncL, RX0, RX1, RX4, RX5, RX7, RX8, RX10]) hd kk
  · rw [show isK h o [2, 12] = 0 from by simp [isK, e]] at kk
    exact x_instNo X (mT_2 53 rfl rfl) hs e (by decide) rfl (by simp [ncL, RX0, RX1, RX4, RX5, RX7, RX8, RX10]) hd kk
  · rw [show isK h o [2, 12] = 1 from by simp [isK, e]] at kk
    exact x_instY X (mT_2 53 rfl rfl) hs e (by decide) rfl (by simp [nwC, RX0, RX1, RX4, RX5, RX7, RX8, RX10]) hd kk
theorem x_inst_313 {ω : XO} {rm : Room} {nL : Nat} {κ : XK} {cc : ByteArray} (X : XC ω rm nL κ cc "SignalBlind") (hω : ω.2.2.2.1 = 1) {L : List Nat} {q : Nat → Nat} {h : hp} {cells slots pc : Nat} {lv : List (Nat × Value)} {rest : List Value} {o : Nat} (hb : sd 1 o = true ∧ kdOf h o ∈ sndK) (hd : decode cc pc = .ok (.instanceof 313, 3)) (kk : XG ω rm nL κ L q h cells slots (pc + 3) lv (.int (isK h o [3, 10]) :: rest)) : XG ω rm nL κ L q h cells slots pc lv (.ref (q o) :: rest) := by
  have hs := sd_of hω hb.1
  rcases snd_cases hb.2 with e | e | e | e | e | e | e
  · rw [show isK h o [3, 10] = 0 from by simp [isK, e]] at kk
    exact x_instNo X (mT_2 63 rfl rfl) hs e (by decide) rfl (by simp [ncL, RX0, RX1, RX4, RX5, RX7, RX8, RX10]) hd kk
  · rw [show isK h o [3, 10] = 1 from by simp [isK, e]] at kk
    exact x_instE X (mT_2 63 rfl rfl) hs e (by decide) rfl rfl hd kk
  · rw [show isK h o [3, 10] = 0 from by simp [isK, e]] at kk
    exact x_instNo X (mT_2 63 rfl rfl) hs e (by decide) rfl (by simp [ncL, RX0, RX1, RX4, RX5, RX7, RX8, RX10]) hd kk
  · rw [show isK h o [3, 10] = 0 from by simp [isK, e]] at kk
    exact x_instNo X (mT_2 63 rfl rfl) hs e (by decide) rfl (by simp [ncL, RX0, RX1, RX4, RX5, RX7, RX8, RX10]) hd kk
  · rw [show isK h o [3, 10] = 0 from by simp [isK, e]] at kk
    exact x_instNo X (mT_2 63 rfl rfl) hs e (by decide) rfl (by simp [ncL, RX0, RX1, RX4, RX5, RX7, RX8, RX10]) hd kk
  · rw [show isK h o [3, 10] = 1 from by simp [isK, e]] at kk
    exact x_instY X (mT_2 63 rfl rfl) hs e (by decide) rfl (by simp [nwC, RX0, RX1, RX4, RX5, RX7, RX8, RX10]) hd kk
  · rw [show isK h o [3, 10] = 0 from by simp [isK, e]] at kk
    exact x_instNo X (mT_2 63 rfl rfl) hs e (by decide) rfl (by simp [ncL, RX0, RX1, RX4, RX5, RX7, RX8, RX10]) hd kk
theorem x_inst_316 {ω : XO} {rm : Room} {nL : Nat} {κ : XK} {cc : ByteArray} (X : XC ω rm nL κ cc "SignalBlind") (hω : ω.2.2.2.1 = 1) {L : List Nat} {q : Nat → Nat} {h : hp} {cells slots pc : Nat} {lv : List (Nat × Value)} {rest : List Value} {o : Nat} (hb : sd 1 o = true ∧ kdOf h o ∈ sndK) (hd : decode cc pc = .ok (.instanceof 316, 3)) (kk : XG ω rm nL κ L q h cells slots (pc + 3) lv (.int (isK h o [7]) :: rest)) : XG ω rm nL κ L q h cells slots pc lv (.ref (q o) :: rest) := by
  have hs := sd_of hω hb.1
  rcases snd_cases hb.2 with e | e | e | e | e | e | e
  · rw [show isK h o [7] = 0 from by simp [isK, e]] at kk
    exact x_instNo X (mT_2 73 rfl rfl) hs e (by decide) rfl (by simp [ncL, RX0, RX1, RX4, RX5, RX7, RX8, RX10]) hd kk
  · rw [show isK h o [7] = 0 from by simp [isK, e]] at kk
    exact x_instNo X (mT_2 73 rfl rfl) hs e (by decide) rfl (by simp [ncL, RX0, RX1, RX4, RX5, RX7, RX8, RX10]) hd kk
  · rw [show isK h o [7] = 0 from by simp [isK, e]] at kk
    exact x_instNo X (mT_2 73 rfl rfl) hs e (by decide) rfl (by simp [ncL, RX0, RX1, RX4, RX5, RX7, RX8, RX10]) hd kk
  · rw [show isK h o [7] = 1 from by simp [isK, e]] at kk
    exact x_instE X (mT_2 73 rfl rfl) hs e (by decide) rfl rfl hd kk
  · rw [show isK h o [7] = 0 from by simp [isK, e]] at kk
    exact x_instNo X (mT_2 73 rfl rfl) hs e (by decide) rfl (by simp [ncL, RX0, RX1, RX4, RX5, RX7, RX8, RX10]) hd kk
  · rw [show isK h o [7] = 0 from by simp [isK, e]] at kk
    exact x_instNo X (mT_2 73 rfl rfl) hs e (by decide) rfl (by simp [ncL, RX0, RX1, RX4, RX5, RX7, RX8, RX10]) hd kk
  · rw [show isK h o [7] = 0 from by simp [isK, e]] at kk
    exact x_instNo X (mT_2 73 rfl rfl) hs e (by decide) rfl (by simp [ncL, RX0, RX1, RX4, RX5, RX7, RX8, RX10]) hd kk
theorem x_inst_319 {ω : XO} {rm : Room} {nL : Nat} {κ : XK} {cc : ByteArray} (X : XC ω rm nL κ cc "SignalBlind") (hω : ω.2.2.2.1 = 1) {L : List Nat} {q : Nat → Nat} {h : hp} {cells slots pc : Nat} {lv : List (Nat × Value)} {rest : List Value} {o : Nat} (hb : sd 1 o = true ∧ kdOf h o ∈ sndK) (hd : decode cc pc = .ok (.instanceof 319, 3)) (kk : XG ω rm nL κ L q h cells slots (pc + 3) lv (.int (isK h o [12]) :: rest)) : XG ω rm nL κ L q h cells slots pc lv (.ref (q o) :: rest) := by
  have hs := sd_of hω hb.1
  rcases snd_cases hb.2 with e | e | e | e | e | e | e
  · rw [show isK h o [12] = 0 from by simp [isK, e]] at kk
    exact x_instNo X (mT_2 83 rfl rfl) hs e (by decide) rfl (by simp [ncL, RX0, RX1, RX4, RX5, RX7, RX8, RX10]) hd kk
  · rw [show isK h o [12] = 0 from by simp [isK, e]] at kk
    exact x_instNo X (mT_2 83 rfl rfl) hs e (by decide) rfl (by simp [ncL, RX0, RX1, RX4, RX5, RX7, RX8, RX10]) hd kk
  · rw [show isK h o [12] = 0 from by simp [isK, e]] at kk
    exact x_instNo X (mT_2 83 rfl rfl) hs e (by decide) rfl (by simp [ncL, RX0, RX1, RX4, RX5, RX7, RX8, RX10]) hd kk
  · rw [show isK h o [12] = 0 from by simp [isK, e]] at kk
    exact x_instNo X (mT_2 83 rfl rfl) hs e (by decide) rfl (by simp [ncL, RX0, RX1, RX4, RX5, RX7, RX8, RX10]) hd kk
  · rw [show isK h o [12] = 0 from by simp [isK, e]] at kk
    exact x_instNo X (mT_2 83 rfl rfl) hs e (by decide) rfl (by simp [ncL, RX0, RX1, RX4, RX5, RX7, RX8, RX10]) hd kk
  · rw [show isK h o [12] = 0 from by simp [isK, e]] at kk
    exact x_instNo X (mT_2 83 rfl rfl) hs e (by decide) rfl (by simp [ncL, RX0, RX1, RX4, RX5, RX7, RX8, RX10]) hd kk
  · rw [show isK h o [12] = 1 from by simp [isK, e]] at kk
    exact x_instE X (mT_2 83 rfl rfl) hs e (by decide) rfl rfl hd kk
theorem x_stat_J0_1053 {ω : XO} {rm : Room} {nL : Nat} {κ : XK} {cc : ByteArray} (X : XC ω rm nL κ cc "java/lang/String") {L : List Nat} {q : Nat → Nat} {h : hp} {cells slots pc : Nat} {lv : List (Nat × Value)} {rest : List Value} (hd : decode cc pc = .ok (.getstatic 1053, 3)) (k : ∀ v : Option Nat, XG ω rm nL κ L q h cells slots (pc + 3) lv (va_rf v :: rest)) : XG ω rm nL κ L q h cells slots pc lv rest := x_statF X (mT_3 63 rfl rfl) hd k
theorem x_stat_J5_18 {ω : XO} {rm : Room} {nL : Nat} {κ : XK} {cc : ByteArray} (X : XC ω rm nL κ cc "java/lang/AbstractStringBuilder") {L : List Nat} {q : Nat → Nat} {h : hp} {cells slots pc : Nat} {lv : List (Nat × Value)} {rest : List Value} (hd : decode cc pc = .ok (.getstatic 18, 3)) (k : XG ω rm nL κ L q h cells slots (pc + 3) lv (.int (1 : Int32) :: rest)) : XG ω rm nL κ L q h cells slots pc lv rest := x_statC X (mT_1 149 rfl rfl) hd k
theorem x_stat_J0_38 {ω : XO} {rm : Room} {nL : Nat} {κ : XK} {cc : ByteArray} (X : XC ω rm nL κ cc "java/lang/String") {L : List Nat} {q : Nat → Nat} {h : hp} {cells slots pc : Nat} {lv : List (Nat × Value)} {rest : List Value} (hd : decode cc pc = .ok (.getstatic 38, 3)) (k : XG ω rm nL κ L q h cells slots (pc + 3) lv (.int (1 : Int32) :: rest)) : XG ω rm nL κ L q h cells slots pc lv rest := x_statC X (mT_3 21 rfl rfl) hd k
theorem x_copyI_X3_57 {ω : XO} {rm : Room} {nL : Nat} {κ : XK} {cc : ByteArray} (X : XC ω rm nL κ cc "SignalBlind$Scene") {L : List Nat} {q : Nat → Nat} {h : hp} {cells slots pc : Nat} {lv : List (Nat × Value)} {rest : List Value} {i j n0 n1 : Nat} {sp dp n : Int32} (hs0 : sd ω.2.2.2.1 i = true) (hk0 : kdOf h i = 40 + 10 * n0 + 0) (hs1 : sd ω.2.2.2.1 j = true) (hk1 : kdOf h j = 40 + 10 * n1 + 0) (hc : ¬ sp < 0 ∧ ¬ dp < 0 ∧ ¬ n < 0 ∧ sp.toNatClampNeg + n.toNatClampNeg ≤ n0 ∧ dp.toNatClampNeg + n.toNatClampNeg ≤ n1) (hroom : (rest.map fun v => v.category).sum ≤ 8) (hR : 1 ≤ rm.frames ∧ 8 + (nativeFrameWords "java/lang/System" "arraycopy" 5 + 11) ≤ rm.locals) (hd : decode cc pc = .ok (.invokestatic 57, 3)) (kk : XG ω rm nL κ L q (cpI h i j sp.toNatClampNeg dp.toNatClampNeg n.toNatClampNeg) cells slots (pc + 3) lv rest) : XG ω rm nL κ L q h cells slots pc lv (.int n :: .int dp :: .ref (q j) :: .int sp :: .ref (q i) :: rest) := x_copyI X (by intro w hw; simp only [List.mem_cons, List.not_mem_nil, or_false] at hw; rcases hw with rfl | rfl | rfl | rfl <;> first | exact (mT_4 41 rfl rfl) | exact (mT_3 200 rfl rfl) | exact (mT_3 199 rfl rfl) | exact (mT_1 24 rfl rfl)) hs0 hk0 hs1 hk1 hc hroom hR hd kk
theorem x_copyL_X3_57 {ω : XO} {rm : Room} {nL : Nat} {κ : XK} {cc : ByteArray} (X : XC ω rm nL κ cc "SignalBlind$Scene") {L : List Nat} {q : Nat → Nat} {h : hp} {cells slots pc : Nat} {lv : List (Nat × Value)} {rest : List Value} {i j n0 n1 : Nat} {sp dp n : Int32} (hs0 : sd ω.2.2.2.1 i = true) (hk0 : kdOf h i = 40 + 10 * n0 + 3) (hs1 : sd ω.2.2.2.1 j = true) (hk1 : kdOf h j = 40 + 10 * n1 + 3) (hc : ¬ sp < 0 ∧ ¬ dp < 0 ∧ ¬ n < 0 ∧ sp.toNatClampNeg + n.toNatClampNeg ≤ n0 ∧ dp.toNatClampNeg + n.toNatClampNeg ≤ n1) (hroom : (rest.map fun v => v.category).sum ≤ 8) (hR : 1 ≤ rm.frames ∧ 8 + (nativeFrameWords "java/lang/System" "arraycopy" 5 + 11) ≤ rm.locals) (hd : decode cc pc = .ok (.invokestatic 57, 3)) (kk : XG ω rm nL κ L q (cpL h i j sp.toNatClampNeg dp.toNatClampNeg n.toNatClampNeg) cells slots (pc + 3) lv rest) : XG ω rm nL κ L q h cells slots pc lv (.int n :: .int dp :: .ref (q j) :: .int sp :: .ref (q i) :: rest) := x_copyL X (by intro w hw; simp only [List.mem_cons, List.not_mem_nil, or_false] at hw; rcases hw with rfl | rfl | rfl | rfl <;> first | exact (mT_4 41 rfl rfl) | exact (mT_3 200 rfl rfl) | exact (mT_3 199 rfl rfl) | exact (mT_1 24 rfl rfl)) hs0 hk0 hs1 hk1 hc hroom hR hd kk
theorem x_copyI_X11_267 {ω : XO} {rm : Room} {nL : Nat} {κ : XK} {cc : ByteArray} (X : XC ω rm nL κ cc "SignalBlind") {L : List Nat} {q : Nat → Nat} {h : hp} {cells slots pc : Nat} {lv : List (Nat × Value)} {rest : List Value} {i j n0 n1 : Nat} {sp dp n : Int32} (hs0 : sd ω.2.2.2.1 i = true) (hk0 : kdOf h i = 40 + 10 * n0 + 0) (hs1 : sd ω.2.2.2.1 j = true) (hk1 : kdOf h j = 40 + 10 * n1 + 0) (hc : ¬ sp < 0 ∧ ¬ dp < 0 ∧ ¬ n < 0 ∧ sp.toNatClampNeg + n.toNatClampNeg ≤ n0 ∧ dp.toNatClampNeg + n.toNatClampNeg ≤ n1) (hroom : (rest.map fun v => v.category).sum ≤ 8) (hR : 1 ≤ rm.frames ∧ 8 + (nativeFrameWords "java/lang/System" "arraycopy" 5 + 11) ≤ rm.locals) (hd : decode cc pc = .ok (.invokestatic 267, 3)) (kk : XG ω rm nL κ L q (cpI h i j sp.toNatClampNeg dp.toNatClampNeg n.toNatClampNeg) cells slots (pc + 3) lv rest) : XG ω rm nL κ L q h cells slots pc lv (.int n :: .int dp :: .ref (q j) :: .int sp :: .ref (q i) :: rest) := x_copyI X (by intro w hw; simp only [List.mem_cons, List.not_mem_nil, or_false] at hw; rcases hw with rfl | rfl | rfl | rfl <;> first | exact (mT_3 198 rfl rfl) | exact (mT_3 200 rfl rfl) | exact (mT_3 199 rfl rfl) | exact (mT_1 24 rfl rfl)) hs0 hk0 hs1 hk1 hc hroom hR hd kk
theorem x_copyL_X11_267 {ω : XO} {rm : Room} {nL : Nat} {κ : XK} {cc : ByteArray} (X : XC ω rm nL κ cc "SignalBlind") {L : List Nat} {q : Nat → Nat} {h : hp} {cells slots pc : Nat} {lv : List (Nat × Value)} {rest : List Value} {i j n0 n1 : Nat} {sp dp n : Int32} (hs0 : sd ω.2.2.2.1 i = true) (hk0 : kdOf h i = 40 + 10 * n0 + 3) (hs1 : sd ω.2.2.2.1 j = true) (hk1 : kdOf h j = 40 + 10 * n1 + 3) (hc : ¬ sp < 0 ∧ ¬ dp < 0 ∧ ¬ n < 0 ∧ sp.toNatClampNeg + n.toNatClampNeg ≤ n0 ∧ dp.toNatClampNeg + n.toNatClampNeg ≤ n1) (hroom : (rest.map fun v => v.category).sum ≤ 8) (hR : 1 ≤ rm.frames ∧ 8 + (nativeFrameWords "java/lang/System" "arraycopy" 5 + 11) ≤ rm.locals) (hd : decode cc pc = .ok (.invokestatic 267, 3)) (kk : XG ω rm nL κ L q (cpL h i j sp.toNatClampNeg dp.toNatClampNeg n.toNatClampNeg) cells slots (pc + 3) lv rest) : XG ω rm nL κ L q h cells slots pc lv (.int n :: .int dp :: .ref (q j) :: .int sp :: .ref (q i) :: rest) := x_copyL X (by intro w hw; simp only [List.mem_cons, List.not_mem_nil, or_false] at hw; rcases hw with rfl | rfl | rfl | rfl <;> first | exact (mT_3 198 rfl rfl) | exact (mT_3 200 rfl rfl) | exact (mT_3 199 rfl rfl) | exact (mT_1 24 rfl rfl)) hs0 hk0 hs1 hk1 hc hroom hR hd kk
theorem x_mmax_J1_92 {ω : XO} {rm : Room} {nL : Nat} {κ : XK} {cc : ByteArray} (X : XC ω rm nL κ cc "java/lang/StringLatin1") {L : List Nat} {q : Nat → Nat} {h : hp} {cells slots pc : Nat} {lv : List (Nat × Value)} {rest : List Value} {x y : Int32} (hroom : (rest.map fun v => v.category).sum ≤ 8) (hR : 1 ≤ rm.frames ∧ 8 + 13 ≤ rm.locals) (hcs : cells ≤ rm.cells ∧ slots ≤ rm.slots) (hd : decode cc pc = .ok (.invokestatic 92, 3)) (k : XG ω rm nL κ L q h cells slots (pc + 3) lv (.int (mxI x y) :: rest)) : XG ω rm nL κ L q h cells slots pc lv (.int y :: .int x :: rest) := x_mmax X (by intro w hw; simp only [List.mem_cons, List.not_mem_nil, or_false] at hw; rcases hw with rfl | rfl | rfl | rfl <;> first | exact (mT_3 36 rfl rfl) | exact (mT_3 37 rfl rfl) | exact (mT_1 21 rfl rfl) | exact (mT_3 38 rfl rfl)) hroom hR hcs hd k
theorem x_mmin_J5_138 {ω : XO} {rm : Room} {nL : Nat} {κ : XK} {cc : ByteArray} (X : XC ω rm nL κ cc "java/lang/AbstractStringBuilder") {L : List Nat} {q : Nat → Nat} {h : hp} {cells slots pc : Nat} {lv : List (Nat × Value)} {rest : List Value} {x y : Int32} (hroom : (rest.map fun v => v.category).sum ≤ 8) (hR : 1 ≤ rm.frames ∧ 8 + 13 ≤ rm.locals) (hcs : cells ≤ rm.cells ∧ slots ≤ rm.slots) (hd : decode cc pc = .ok (.invokestatic 138, 3)) (k : XG ω rm nL κ L q h cells slots (pc + 3) lv (.int (mnI x y) :: rest)) : XG ω rm nL κ L q h cells slots pc lv (.int y :: .int x :: rest) := x_mmin X (by intro w hw; simp only [List.mem_cons, List.not_mem_nil, or_false] at hw; rcases hw with rfl | rfl | rfl | rfl <;> first | exact (mT_4 232 rfl rfl) | exact (mT_3 40 rfl rfl) | exact (mT_1 21 rfl rfl) | exact (mT_3 41 rfl rfl)) hroom hR hcs hd k
theorem x_mmin_X11_291 {ω : XO} {rm : Room} {nL : Nat} {κ : XK} {cc : ByteArray} (X : XC ω rm nL κ cc "SignalBlind") {L : List Nat} {q : Nat → Nat} {h : hp} {cells slots pc : Nat} {lv : List (Nat × Value)} {rest : List Value} {x y : Int32} (hroom : (rest.map fun v => v.category).sum ≤ 8) (hR : 1 ≤ rm.frames ∧ 8 + 13 ≤ rm.locals) (hcs : cells ≤ rm.cells ∧ slots ≤ rm.slots) (hd : decode cc pc = .ok (.invokestatic 291, 3)) (k : XG ω rm nL κ L q h cells slots (pc + 3) lv (.int (mnI x y) :: rest)) : XG ω rm nL κ L q h cells slots pc lv (.int y :: .int x :: rest) := x_mmin X (by intro w hw; simp only [List.mem_cons, List.not_mem_nil, or_false] at hw; rcases hw with rfl | rfl | rfl | rfl <;> first | exact (mT_3 162 rfl rfl) | exact (mT_3 40 rfl rfl) | exact (mT_1 21 rfl rfl) | exact (mT_3 41 rfl rfl)) hroom hR hcs hd k
theorem x_mmin_J1_38 {ω : XO} {rm : Room} {nL : Nat} {κ : XK} {cc : ByteArray} (X : XC ω rm nL κ cc "java/lang/StringLatin1") {L : List Nat} {q : Nat → Nat} {h : hp} {cells slots pc : Nat} {lv : List (Nat × Value)} {rest : List Value} {x y : Int32} (hroom : (rest.map fun v => v.category).sum ≤ 8) (hR : 1 ≤ rm.frames ∧ 8 + 13 ≤ rm.locals) (hcs : cells ≤ rm.cells ∧ slots ≤ rm.slots) (hd : decode cc pc = .ok (.invokestatic 38, 3)) (k : XG ω rm nL κ L q h cells slots (pc + 3) lv (.int (mnI x y) :: rest)) : XG ω rm nL κ L q h cells slots pc lv (.int y :: .int x :: rest) := x_mmin X (by intro w hw; simp only [List.mem_cons, List.not_mem_nil, or_false] at hw; rcases hw with rfl | rfl | rfl | rfl <;> first | exact (mT_3 39 rfl rfl) | exact (mT_3 40 rfl rfl) | exact (mT_1 21 rfl rfl) | exact (mT_3 41 rfl rfl)) hroom hR hcs hd k
