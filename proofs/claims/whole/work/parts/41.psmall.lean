-- ===== small functions: both sides' =====
theorem nI_xor (a b : Nat) : nI a ^^^ nI b = nI (a ^^^ b) := by
  apply Int32.toBitVec_inj.mp
  show (BitVec.ofNat 32 a) ^^^ (BitVec.ofNat 32 b) = BitVec.ofNat 32 (a ^^^ b)
  apply BitVec.eq_of_toNat_eq
  rw [BitVec.toNat_xor, BitVec.toNat_ofNat, BitVec.toNat_ofNat, BitVec.toNat_ofNat, Nat.xor_mod_two_pow]
theorem xor_lt {a b : Nat} (ha : a < 1024) (hb : b < 1024) : a ^^^ b < 1024 := Nat.xor_lt_two_pow (n := 10) ha hb
theorem M_bits_x {h : hp} {a b : Nat} (ha : a < 1024) (hb : b < 1024) : f_X12_bits h (nI a ^^^ nI b) = some (nI (pop 10 (a ^^^ b))) := by rw [nI_xor]; exact M_bits (xor_lt ha hb)
theorem X_bits0 : ∀ s, s < 1024 → f_J6_bitCount_0f7a4 hp0 (nI s) = some (nI (pop 10 s)) := by decide +kernel
theorem X_bits {h : hp} {s : Nat} (hs : s < 1024) : f_J6_bitCount_0f7a4 h (nI s) = some (nI (pop 10 s)) := X_bits0 s hs
theorem X_apart {h : hp} {a b : Nat} (ha : a < 1024) (hb : b < 1024) : f_X11_apart h (nI a) (nI b) = some (nI (pop 10 (a ^^^ b))) := by
  unfold f_X11_apart
  rw [nI_xor, bnr_of (X_bits (xor_lt ha hb))]
theorem pop_le : ∀ k n, pop k n ≤ k := by
  intro k
  induction k with
  | zero => intro n; exact Nat.le_refl _
  | succ k ih => intro n; have := ih (n / 2); show n % 2 + pop k (n / 2) ≤ k + 1; omega
def mir : Nat → Nat → Nat
  | 0, _ => 0
  | k + 1, n => n % 2 * 2 ^ k + mir k (n / 2)
theorem mir_lt : ∀ s, s < 1024 → mir 10 s < 1024 := by decide +kernel
theorem M_mir0 : ∀ s, s < 1024 → f_X12_mirrored hp0 (nI s) = some (nI (mir 10 s)) := by decide +kernel
theorem X_mir0 : ∀ s, s < 1024 → f_X11_mirrored hp0 (nI s) = some (nI (mir 10 s)) := by decide +kernel
theorem M_mir_h (h h' : hp) : ∀ n a b c, f_X12_mirrored_4 h n a b c = f_X12_mirrored_4 h' n a b c := by
  intro n
  induction n with
  | zero => intros; rfl
  | succ n ih =>
    intro a b c
    have : f_X12_mirrored_30 h (f_X12_mirrored_4 h n) = f_X12_mirrored_30 h' (f_X12_mirrored_4 h' n) := by
      funext x y z w
      simp only [f_X12_mirrored_30, nm_eq, ih]
    simp only [f_X12_mirrored_4, M_has_h (h := h) (h' := h'), this]
theorem X_mir_h (h h' : hp) : ∀ n a b c, f_X11_mirrored_4 h n a b c = f_X11_mirrored_4 h' n a b c := by
  intro n
  induction n with
  | zero => intros; rfl
  | succ n ih =>
    intro a b c
    have : f_X11_mirrored_27 h (f_X11_mirrored_4 h n) = f_X11_mirrored_27 h' (f_X11_mirrored_4 h' n) := by
      funext x y z
      simp only [f_X11_mirrored_27, nm_eq, ih]
    simp only [f_X11_mirrored_4, this]
theorem M_mir {h : hp} {s : Nat} (hs : s < 1024) : f_X12_mirrored h (nI s) = some (nI (mir 10 s)) := by
  rw [← M_mir0 s hs]; exact M_mir_h _ _ _ _ _ _
theorem X_mir {h : hp} {s : Nat} (hs : s < 1024) : f_X11_mirrored h (nI s) = some (nI (mir 10 s)) := by
  rw [← X_mir0 s hs]; exact X_mir_h _ _ _ _ _ _
def trn (s n : Nat) : Nat := (s * 2 ^ (n % 10) + s / 2 ^ (10 - n % 10)) % 1024
theorem trn_lt (s n : Nat) : trn s n < 1024 := Nat.mod_lt _ (by decide)
theorem trn0 : ∀ m, m < 10 → ∀ s, s < 1024 → (((nI s <<< (nI m &&& 31)) ||| (nI s >>> (((10 : Int32) - nI m) &&& 31))) &&& (1023 : Int32)) = nI (trn s m) := by decide +kernel
theorem trn_mod (s n : Nat) : trn s (n % 10) = trn s n := by unfold trn; rw [Nat.mod_mod]
theorem rem10 {n : Nat} (h : n < 2 ^ 31) : nI n - nI n / (10 : Int32) * (10 : Int32) = nI (n % 10) := pk_rem (d := 10) h (by decide) (by decide)
theorem X_turned {h : hp} {s n : Nat} (hs : s < 1024) (hn : n < 2 ^ 31) : f_X11_turned h (nI s) (nI n) = some (nI (trn s n)) := by
  unfold f_X11_turned
  rw [nz_of (by decide), nm_eq, rem10 hn, trn0 _ (Nat.mod_lt _ (by decide)) s hs, trn_mod]
theorem M_turned {h : hp} {s n : Nat} (hs : s < 1024) (hn : n < 2 ^ 31) : f_X12_turned h (nI s) (nI n) = some (nI (trn s n)) := by
  unfold f_X12_turned
  rw [nz_of (by decide), nm_eq, rem10 hn, trn0 _ (Nat.mod_lt _ (by decide)) s hs, trn_mod]
theorem M_in {h : hp} {a b c : Int32} : f_X12_in h a b c = some (if a < b ∨ c < a then 0 else 1) := by
  unfold f_X12_in f_X12_in_14 f_X12_in_15
  by_cases h1 : a < b
  · rw [if_pos h1, if_pos (Or.inl h1)]; rfl
  · rw [if_neg h1]
    by_cases h2 : c < a
    · rw [if_pos h2, if_pos (Or.inr h2)]; rfl
    · rw [if_neg h2, if_neg (by rintro (h | h) <;> contradiction)]; rfl
theorem ckZ_01 {α : Type} {c : Prop} [Decidable c] {a : Option α} : ckZ (if c then 0 else 1) a = a := by
  by_cases h : c
  · rw [if_pos h]; rfl
  · rw [if_neg h]; rfl
theorem nlt_of {a b : Int32} (h : a ≤ b) (h2 : b < a) : False := by
  have h3 := Int32.le_iff_toInt_le.mp h
  have h4 := Int32.lt_iff_toInt_lt.mp h2
  omega
/-- a number below a limit, or not -/
theorem X_isSign_y {h : hp} {s : Nat} (hs : s < 1024) : f_X11_isSign h (nI s) = some 1 := by
  unfold f_X11_isSign f_X11_isSign_16
  rw [if_neg (nI_pos (by omega)), if_pos (show nI s < (1024 : Int32) from nI_lt (b := 1024) hs (by decide))]; rfl
theorem X_isSign_n {h : hp} {x : Int32} (hx : x < 0 ∨ nI 1024 ≤ x) : f_X11_isSign h x = some 0 := by
  unfold f_X11_isSign f_X11_isSign_15 f_X11_isSign_16
  by_cases h1 : x < 0
  · rw [if_pos h1]; rfl
  · rw [if_neg h1, if_neg (show ¬ x < (1024 : Int32) from fun h2 => by
      rcases hx with hx | hx
      · exact h1 hx
      · exact nlt_of hx h2)]; rfl
theorem M_isSign_y {h : hp} {s : Nat} (hs : s < 1024) : f_X12_isSign h (nI s) = some 1 := by
  unfold f_X12_isSign
  rw [bnr_of M_in, if_neg (by
    rintro (h1 | h1)
    · exact nI_pos (by omega) h1
    · exact nlt_of (nI_le (a := s) (b := 1023) (by omega) (by decide)) h1)]
  rfl
theorem M_isSign_n {h : hp} {x : Int32} (hx : x < 0 ∨ nI 1024 ≤ x) : f_X12_isSign h x = some 0 := by
  unfold f_X12_isSign
  rw [bnr_of M_in, if_pos (by
    rcases hx with h1 | h1
    · exact Or.inl h1
    · refine Or.inr ?_
      have h3 := Int32.le_iff_toInt_le.mp h1
      refine Int32.lt_iff_toInt_lt.mpr ?_
      rw [nI_toInt (by decide)] at h3
      show (1023 : Int) < x.toInt
      omega)]
  rfl
