-- ===== what both sides stand for: a scene; clauses; the relation =====
/-- what a sender of kind k and digit v makes of a blind s at hour t with the row's number r -/
def shw (k v t r s : Nat) : Nat := if k = 1 then trn s 1 else if k = 2 then s &&& 341 else if k = 3 then s ^^^ 2 ^ v else if k = 4 then mir 10 (trn s 1) else if k = 5 then (if t % 2 = 0 then s &&& 341 else s) else if k = 6 then (s ^^^ 2 ^ v) ^^^ r else s
/-- a clause: verb, number, its test in steps (below 1800 a comparison; 2001 not, 2002 and, 2003 or) -/
abbrev cla : Type := Nat × Nat × List Nat
def tst (F : Nat → Nat) (t : Nat) : Bool := if t / 100 % 3 = 0 then decide (F (t / 300) < t % 100) else if t / 100 % 3 = 1 then decide (F (t / 300) = t % 100) else decide (t % 100 < F (t / 300))
def stp (F : Nat → Nat) (c : Nat) (st : List Bool) : List Bool := if c = 2001 then (match st with
    | b :: r => (!b) :: r
    | [] => []) else if c = 2002 then (match st with
    | a :: b :: r => (b && a) :: r
    | _ => []) else if c = 2003 then (match st with
    | a :: b :: r => (b || a) :: r
    | _ => []) else tst F c :: st
def evl (F : Nat → Nat) : List Nat → List Bool → List Bool
  | [], st => st
  | c :: cs, st => evl F cs (stp F c st)
/-- how deep the steps go: none if they don't stand -/
def dep : List Nat → Nat → Option Nat
  | [], d => some d
  | c :: cs, d => if c = 2001 then (if 1 ≤ d then dep cs d else none) else if c = 2002 ∨ c = 2003 then (if 2 ≤ d then dep cs (d - 1) else none) else if c < 1800 ∧ d < 20 then dep cs (d + 1) else none
def clOK (c : cla) : Prop := c.1 < 4 ∧ c.2.1 < 100 ∧ (c.1 = 3 ∨ dep c.2.2 0 = some 1)
def mvd (v n b : Nat) : Nat := if v = 0 then b ||| 2 ^ (n % 10) else if v = 1 then b &&& (1023 - 2 ^ (n % 10)) else trn b n
def blS (F : Nat → Nat) : List cla → Nat → Nat
  | [], b => b
  | c :: cs, b => blS F cs (if c.1 = 3 then b else if (evl F c.2.2 []).head? = some true then mvd c.1 c.2.1 b else b)
def nearL : List cla → Nat → Nat
  | [], n => n
  | c :: cs, n => nearL cs (if c.1 = 3 then c.2.1 else n)
/-- a scene: words (how many, which), senders (how many, kind, digit, sent, rows), hour, seen (how many, word, sign), relay (how many, who), book (how many, word, sign), clauses -/
abbrev scn : Type := (Nat × (Nat → Nat)) × (Nat × (Nat → Nat) × (Nat → Nat) × (Nat → Nat) × (Nat → Nat)) × Nat × (Nat × (Nat → Nat) × (Nat → Nat)) × (Nat × (Nat → Nat)) × (Nat × (Nat → Nat) × (Nat → Nat)) × Option (List cla)
def sn (σ : scn) : Nat := σ.1.1
def sW (σ : scn) : Nat → Nat := σ.1.2
def sp (σ : scn) : Nat := σ.2.1.1
def sK' (σ : scn) : Nat → Nat := σ.2.1.2.1
def sV (σ : scn) : Nat → Nat := σ.2.1.2.2.1
def sS (σ : scn) : Nat → Nat := σ.2.1.2.2.2.1
def sRw (σ : scn) : Nat → Nat := σ.2.1.2.2.2.2
def sH (σ : scn) : Nat := σ.2.2.1
def sC (σ : scn) : Option (List cla) := σ.2.2.2.2.2.2
def scOK (σ : scn) : Prop := (sn σ ≤ 8 ∧ ∀ k, k < sn σ → sW σ k < 1024) ∧ (sp σ ≤ 5 ∧ ∀ p, p < sp σ → sK' σ p < 7 ∧ sV σ p < 10 ∧ sS σ p ≤ 9999 ∧ ∀ j, j < 4 → sRw σ (4 * p + j) < 10) ∧ sH σ ≤ 20000 ∧
  (σ.2.2.2.1.1 ≤ 5 ∧ ∀ k, k < σ.2.2.2.1.1 → σ.2.2.2.1.2.1 k < sn σ ∧ σ.2.2.2.1.2.2 k < 1024) ∧
  (σ.2.2.2.2.1.1 ≤ 8 ∧ ∀ k, k < σ.2.2.2.2.1.1 → σ.2.2.2.2.1.2 k < sp σ ∨ σ.2.2.2.2.1.2 k = 5) ∧
  (σ.2.2.2.2.2.1.1 ≤ 8 ∧ ∀ k, k < σ.2.2.2.2.2.1.1 → σ.2.2.2.2.2.1.2.1 k < sn σ ∧ σ.2.2.2.2.2.1.2.2 k < 1024) ∧
  ∀ C, sC σ = some C → C.length ≤ 10 ∧ ∀ c ∈ C, clOK c
def factS (σ : scn) (p v t s : Nat) (f : Nat) : Nat := if f = 0 then p else if f = 1 then sK' σ p else if f = 2 then v else if f = 3 then pop 10 s else if f = 4 then sS σ p % 10 else t % 24
def cls (σ : scn) : List cla := match sC σ with
  | none => []
  | some C => C
/-- what sender p, were v its digit, shows at hour t for the sign s -/
def showsS (σ : scn) (p v t s : Nat) : Nat := shw (sK' σ p) v t (sRw σ (4 * p + t % 4)) (blS (factS σ p v t s) (cls σ) s)
def nearS (σ : scn) : Nat := nearL (cls σ) 2
/-- the word that a sign is read as: its number and one more, 0 for no one -/
def readG (σ : scn) (s : Nat) (w : Nat) (a : Nat × Nat) : Nat × Nat := if pop 10 (sW σ w ^^^ s) < a.2 then (w + 1, pop 10 (sW σ w ^^^ s)) else a
def readS (σ : scn) (s : Nat) : Nat := (lp (readG σ s) 0 (sn σ) (0, nearS σ + 1)).1
def rdI (r : Nat) : Int32 := if r = 0 then -5 else nI (r - 1)
-- the class's scene at b
def sndQ (k : Nat) : Nat := if k = 1 then 9 else if k = 2 then 2 else if k = 3 then 3 else if k = 4 then 7 else if k = 5 then 12 else if k = 6 then 10 else 6
def stepX (c : Nat) : Int32 := if c = 2001 then -1 else if c = 2002 then -2 else if c = 2003 then -3 else nI c
def stepM (c : Nat) : Int32 := if c = 2001 then -33 else if c = 2002 then -38 else if c = 2003 then -124 else nI (1000 * (c / 300) + 100 * (c / 100 % 3) + c % 100)
def offs : List cla → Nat → Nat
  | [], _ => 0
  | _ :: _, 0 => 0
  | c :: cs, k + 1 => c.2.2.length + offs cs k
def wdK (h : hp) (w : Nat) : Prop := sd 1 w = true ∧ kdOf h w = 11 ∧ (kdOf h (w + 1) = 140 ∧ kdOf h (w + 2) = 140 ∧ kdOf h (w + 3) = 140 ∧ kdOf h (w + 4) = 1040) ∧ sd 1 (w + 1) = true ∧ sd 1 (w + 2) = true ∧ sd 1 (w + 3) = true ∧ sd 1 (w + 4) = true
def wdX (h : hp) (w : Nat) (C : List cla) : Prop := wdK h w ∧ hI h w 3 = nI C.length ∧ hI h w 6 = nI (nearL C 2) ∧ offs C C.length ≤ 100 ∧ ∀ k c, C[k]? = some c → aI h (w + 1) k = nI c.1 ∧ aI h (w + 2) k = nI c.2.1 ∧ aI h (w + 3) k = nI (offs C (k + 1)) ∧ ∀ j d, c.2.2[j]? = some d → aI h (w + 4) (offs C k + j) = stepX d
def wdM (h : hp) (f : Nat) (C : List cla) : Prop := aI h 59 f = nI C.length ∧ ∀ k c, C[k]? = some c → aI h 60 (10 * f + k) = nI c.1 ∧ aI h 61 (10 * f + k) = nI c.2.1 ∧ (c.1 = 3 ∨ ∃ a, a + c.2.2.length ≤ 100 * (f + 1) ∧ aI h 62 (10 * f + k) = nI a ∧ aI h 63 (10 * f + k) = nI (a + c.2.2.length) ∧ ∀ j d, c.2.2[j]? = some d → aI h 64 (a + j) = stepM d)
def sndX (h : hp) (o p k v : Nat) : Prop := sd 1 o = true ∧ 100 ≤ o ∧ kdOf h o = sndQ k ∧ hI h o 0 = nI p ∧ hI h o 1 = nI k ∧ hI h o 2 = nI v
def scX (h : hp) (b : Nat) (σ : scn) : Prop :=
  (hI h (b + 1) 1 = nI (sn σ) ∧ ∀ k, k < sn σ → aI h (b + 2) k = nI (sW σ k)) ∧
  (hI h b 2 = nI (sp σ) ∧ (∀ p, p < sp σ → ∃ o, aR h (b + 3) p = some o ∧ sndX h o p (sK' σ p) (sV σ p)) ∧ (∀ p, p < 5 → aI h (b + 4) p = nI (if p < sp σ then sS σ p else 0)) ∧ ∀ j, j < 20 → aI h (b + 5) j = nI (if j / 4 < sp σ then sRw σ j else 0)) ∧
  hI h b 5 = nI (sH σ) ∧
  (hI h (b + 6) 1 = nI σ.2.2.2.1.1 ∧ ∀ k, k < σ.2.2.2.1.1 → aI h (b + 7) k = nI (σ.2.2.2.1.2.1 k * 1024 + σ.2.2.2.1.2.2 k)) ∧
  (hI h (b + 8) 1 = nI σ.2.2.2.2.1.1 ∧ ∀ k, k < σ.2.2.2.2.1.1 → aI h (b + 9) k = nI (σ.2.2.2.2.1.2 k)) ∧
  (hI h (b + 10) 1 = nI σ.2.2.2.2.2.1.1 ∧ ∀ k, k < σ.2.2.2.2.2.1.1 → aI h (b + 11) k = nI (σ.2.2.2.2.2.1.2.1 k * 1024 + σ.2.2.2.2.2.1.2.2 k)) ∧
  (match sC σ with
    | none => hR h b 9 = none
    | some C => ∃ w, hR h b 9 = some w ∧ wdX h w C)
/-- the reference's scene: fields words, senders, hour, seen, relays, books, the; rows sign, kind, v, sent, rows, seenWord, seenSign, who, bookWord, bookSign -/
def scM (h : hp) (f0 f1 f2 f3 f4 f5 f6 r0 r1 r2 r3 r4 r5 r6 r7 r8 r9 : Nat) (σ : scn) : Prop :=
  (hI h 52 f0 = nI (sn σ) ∧ ∀ k, k < sn σ → aI h r0 k = nI (sW σ k)) ∧
  (hI h 52 f1 = nI (sp σ) ∧ ∀ p, p < sp σ → aI h r1 p = nI (sK' σ p) ∧ aI h r2 p = nI (sV σ p) ∧ aI h r3 p = nI (sS σ p) ∧ ∀ j, j < 4 → aI h r4 (4 * p + j) = nI (sRw σ (4 * p + j))) ∧
  hI h 52 f2 = nI (sH σ) ∧
  (hI h 52 f3 = nI σ.2.2.2.1.1 ∧ ∀ k, k < σ.2.2.2.1.1 → aI h r5 k = nI (σ.2.2.2.1.2.1 k) ∧ aI h r6 k = nI (σ.2.2.2.1.2.2 k)) ∧
  (hI h 52 f4 = nI σ.2.2.2.2.1.1 ∧ ∀ k, k < σ.2.2.2.2.1.1 → aI h r7 k = nI (σ.2.2.2.2.1.2 k)) ∧
  (hI h 52 f5 = nI σ.2.2.2.2.2.1.1 ∧ ∀ k, k < σ.2.2.2.2.2.1.1 → aI h r8 k = nI (σ.2.2.2.2.2.1.2.1 k) ∧ aI h r9 k = nI (σ.2.2.2.2.2.1.2.2 k)) ∧
  (match sC σ with
    | none => hI h 52 f6 = -1
    | some C => ∃ f wn, f < wn ∧ wn ≤ 6 ∧ hI h 52 8 = nI wn ∧ hI h 52 f6 = nI f ∧ wdM h f C)
def scM1 (h : hp) (σ : scn) : Prop := scM h 0 1 2 29 32 33 9 53 54 55 56 57 71 72 73 74 75 σ
def scM2 (h : hp) (σ : scn) : Prop := scM h 39 40 41 42 43 44 38 76 77 78 79 80 81 82 83 84 85 σ
/-- what neither side's answers hang on: the class's facts, marks and orders -/
def scrX (h h' : hp) : Prop := h'.1 = h.1 ∧ h'.2.1 = h.2.1 ∧ (∀ a, a ≠ 35 → a ≠ 37 → a ≠ 38 → aI h' a = aI h a) ∧ (∀ a, a ≠ 36 → aL h' a = aL h a) ∧ h'.2.2.2.2 = h.2.2.2.2
theorem scrX.rf {h : hp} : scrX h h := ⟨rfl, rfl, fun _ _ _ _ => rfl, fun _ _ => rfl, rfl⟩
theorem scrX.tr {h h1 h2 : hp} (a : scrX h h1) (b : scrX h1 h2) : scrX h h2 := ⟨b.1.trans a.1, b.2.1.trans a.2.1, fun i h1 h2 h3 => (b.2.2.1 i h1 h2 h3).trans (a.2.2.1 i h1 h2 h3), fun i h1 => (b.2.2.2.1 i h1).trans (a.2.2.2.1 i h1), b.2.2.2.2.trans a.2.2.2.2⟩
theorem scrX_tI {h : hp} {a k : Nat} {v : Int32} (ha : a = 35 ∨ a = 37 ∨ a = 38) : scrX h (tI h a k v) := ⟨rfl, rfl, fun i h1 h2 h3 => by funext j; rw [aI_tI, if_neg (by omega)], fun _ _ => rfl, rfl⟩
-- what a sender makes of a blind
theorem and_lt {a b : Nat} (ha : a < 1024) : a &&& b < 1024 := Nat.lt_of_le_of_lt Nat.and_le_left ha
theorem shw_lt {k v t r s : Nat} (hs : s < 1024) (hv : v < 10) (hr : r < 10) : shw k v t r s < 1024 := by
  have hp : 2 ^ v < 1024 := by
    have : 2 ^ v ≤ 2 ^ 9 := Nat.pow_le_pow_right (by decide) (by omega)
    omega
  unfold shw
  repeat' split
  · exact trn_lt _ _
  · exact and_lt hs
  · exact xor_lt hs hp
  · exact mir_lt _ (trn_lt _ _)
  · exact and_lt hs
  · exact hs
  · exact xor_lt (xor_lt hs hp) (by omega)
  · exact hs
theorem nI_and (a b : Nat) : nI a &&& nI b = nI (a &&& b) := by
  apply Int32.toBitVec_inj.1
  show BitVec.ofNat 32 a &&& BitVec.ofNat 32 b = BitVec.ofNat 32 (a &&& b)
  apply BitVec.eq_of_getLsbD_eq
  intro i hi
  simp [hi]
theorem one_shl : ∀ v, v < 32 → ((1 : Int32) <<< (nI v &&& 31)) = nI (2 ^ v) := by decide +kernel
theorem rem2 {n : Nat} (h : n < 2 ^ 31) : nI n - nI n / (2 : Int32) * (2 : Int32) = nI (n % 2) := pk_rem (d := 2) h (by decide) (by decide)
theorem rem4 {n : Nat} (h : n < 2 ^ 31) : nI n - nI n / (4 : Int32) * (4 : Int32) = nI (n % 4) := pk_rem (d := 4) h (by decide) (by decide)
theorem rem24 {n : Nat} (h : n < 2 ^ 31) : nI n - nI n / (24 : Int32) * (24 : Int32) = nI (n % 24) := pk_rem (d := 24) h (by decide) (by decide)
theorem sndQ_in {k : Nat} : sndQ k ∈ sndK := by
  unfold sndQ
  repeat' split
  all_goals decide
theorem X_turned1 {h : hp} {s : Nat} (hs : s < 1024) : f_X11_turned h (nI s) (1 : Int32) = some (nI (trn s 1)) := X_turned (n := 1) hs (by decide)
theorem X7_showing {h : hp} {o s : Nat} {a b c : Int32} (hs : s < 1024) : f_X7_showing h o (nI s) a b c = some (nI (trn s 1)) := by
  unfold f_X7_showing
  rw [bnr_of (X_turned1 hs)]
theorem X_showing {h : hp} {o k s v t r : Nat} (hs : sd 1 o = true) (hk : kdOf h o = sndQ k) (hk7 : k < 7) (h1 : s < 1024) (h2 : v < 10) (h3 : t < 2 ^ 31) : f_D_showing h o (nI s) (nI v) (nI t) (nI r) = some (nI (shw k v t r s)) := by
  have hS : kdOf h o ∈ sndK := by rw [hk]; exact sndQ_in
  unfold f_D_showing
  rw [hk]
  have e341 : nI s &&& (341 : Int32) = nI (s &&& 341) := nI_and s 341
  rcases (show k = 0 ∨ k = 1 ∨ k = 2 ∨ k = 3 ∨ k = 4 ∨ k = 5 ∨ k = 6 by omega) with rfl | rfl | rfl | rfl | rfl | rfl | rfl
  · rfl
  · show f_X7_showing h o (nI s) (nI v) (nI t) (nI r) = _
    rw [X7_showing h1]; rfl
  · show some (nI s &&& (341 : Int32)) = _
    rw [e341]; rfl
  · show f_X1_showing h o (nI s) (nI v) (nI t) (nI r) = _
    unfold f_X1_showing
    rw [one_shl v (by omega), nI_xor]; rfl
  · show f_X5_showing h o (nI s) (nI v) (nI t) (nI r) = _
    unfold f_X5_showing
    rw [ckS_of hs hS, bnr_of (X7_showing h1), bnr_of (X_mir (trn_lt _ _))]; rfl
  · show f_X10_showing h o (nI s) (nI v) (nI t) (nI r) = _
    unfold f_X10_showing f_X10_showing_19 f_X0_showing
    rw [nz_of (by decide), rem2 h3, ckS_of hs hS]
    by_cases ht : t % 2 = 0
    · rw [ht, if_pos (show nI 0 = 0 from rfl)]
      show some (nI s &&& (341 : Int32)) = some (nI (if t % 2 = 0 then s &&& 341 else s))
      rw [if_pos ht, e341]
    · rw [if_neg (nI_ne0 (by omega) (by omega))]
      show _ = some (nI (if t % 2 = 0 then s &&& 341 else s))
      rw [if_neg ht]
  · show f_X8_showing h o (nI s) (nI v) (nI t) (nI r) = _
    unfold f_X8_showing f_X1_showing
    rw [ckS_of hs hS, one_shl v (by omega), nI_xor]
    show some (nI (s ^^^ 2 ^ v) ^^^ nI r) = _
    rw [nI_xor]; rfl
