-- ===== a clause's test: the class's way (bits) =====
def b01 (b : Bool) : Int32 := if b then 1 else 0
theorem div_nI {a : Nat} (ha : a < 2 ^ 31) {d : Nat} (h0 : 0 < d) (hd : d < 2 ^ 31) {m : Int32} (hm : m = nI d) : nI a / m = nI (a / d) := by rw [hm]; exact pk_div ha h0 hd
theorem rem_nI {a : Nat} (ha : a < 2 ^ 31) {d : Nat} (h0 : 0 < d) (hd : d < 2 ^ 31) {m : Int32} (hm : m = nI d) : nI a - nI a / m * m = nI (a % d) := by rw [hm]; exact pk_rem ha h0 hd
theorem X_isSo {h : hp} {F : Nat → Nat} {c : Nat} (hc : c < 1800) (hF : ∀ j, j < 6 → aI h 35 j = nI (F j) ∧ F j < 2 ^ 31) : f_X9_isSo h (nI c) 35 = some (b01 (tst F c)) := by
  have hk : kdOf h 35 = 40 + 10 * 6 + 0 := rfl
  have hA := fun (a : Option Int32) => ckA_of (b := 1) (h := h) (i := 35) (e := 0) (n := 6) (a := a) rfl hk (by decide)
  have hl : alen h 35 = 6 := (hA none).2
  have e1 : nI c / (300 : Int32) = nI (c / 300) := div_nI (by omega) (by decide) (by decide) rfl
  have e2 : nI c - nI c / (100 : Int32) * (100 : Int32) = nI (c % 100) := rem_nI (by omega) (by decide) (by decide) rfl
  have e3 : nI c / (100 : Int32) = nI (c / 100) := div_nI (by omega) (by decide) (by decide) rfl
  have e4 : nI (c / 100) - nI (c / 100) / (3 : Int32) * (3 : Int32) = nI (c / 100 % 3) := rem_nI (by omega) (by decide) (by decide) rfl
  have h6 : c / 300 < 6 := by omega
  obtain ⟨g1, g2⟩ := hF _ h6
  have hcl : (nI (c / 300)).toNatClampNeg = c / 300 := nI_clamp (by omega)
  unfold f_X9_isSo
  rw [nz_of (by decide), nm_eq, e1, if_neg (nI_pos (by omega)), (hA _).1, hl, if_pos (show nI (c / 300) < Int32.ofNat 6 from nI_lt h6 (by decide)), (hA _).1, chk_of (vp_in_nI h6 (by decide)), nm_eq, hcl, g1, nz_of (by decide), nm_eq, e2, nz_of (by decide), nz_of (by decide), e3, e4]
  unfold tst
  have hm : c / 100 % 3 < 3 := Nat.mod_lt _ (by decide)
  by_cases m0 : c / 100 % 3 = 0
  · rw [if_pos (show nI (c / 100 % 3) = (0 : Int32) by rw [m0]; rfl), if_pos m0]
    by_cases hlt : F (c / 300) < c % 100
    · rw [if_pos (nI_lt hlt (by omega)), decide_eq_true hlt]; rfl
    · rw [if_neg (nI_nlt (by omega) g2), decide_eq_false hlt]; rfl
  · rw [if_neg (show ¬ nI (c / 100 % 3) = (0 : Int32) from nI_ne0 (by omega) (by omega)), if_neg m0]
    by_cases m1 : c / 100 % 3 = 1
    · rw [if_pos (show nI (c / 100 % 3) = (1 : Int32) by rw [m1]; rfl), if_pos m1]
      by_cases he : F (c / 300) = c % 100
      · rw [if_pos (by rw [he]), decide_eq_true he]; rfl
      · rw [if_neg (fun z => he ((nI_eq g2 (by omega)).mp z)), decide_eq_false he]; rfl
    · have m2 : c / 100 % 3 = 2 := by omega
      rw [if_neg (show ¬ nI (c / 100 % 3) = (1 : Int32) by rw [m2]; decide), if_neg m1]
      by_cases hlt : c % 100 < F (c / 300)
      · rw [if_pos (nI_lt hlt g2), decide_eq_true hlt]; rfl
      · rw [if_neg (nI_nlt (by omega) (by omega)), decide_eq_false hlt]; rfl
def bv : List Bool → Nat
  | [] => 0
  | b :: r => b.toNat + 2 * bv r
theorem bv_lt : ∀ st : List Bool, bv st < 2 ^ st.length := by
  intro st
  induction st with
  | nil => exact Nat.one_pos
  | cons b r ih =>
    show b.toNat + 2 * bv r < 2 ^ (r.length + 1)
    have : b.toNat ≤ 1 := Bool.toNat_le b
    rw [Nat.pow_succ]; omega
theorem bv_lt20 {st : List Bool} (h : st.length ≤ 20) : bv st < 2 ^ 20 := Nat.lt_of_lt_of_le (bv_lt st) (Nat.pow_le_pow_right (by decide) h)
theorem bv_mod {b : Bool} {r : List Bool} : bv (b :: r) % 2 = b.toNat := by
  show (b.toNat + 2 * bv r) % 2 = _
  have : b.toNat ≤ 1 := Bool.toNat_le b
  omega
theorem bv_div {b : Bool} {r : List Bool} : bv (b :: r) / 2 = bv r := by
  show (b.toNat + 2 * bv r) / 2 = _
  have : b.toNat ≤ 1 := Bool.toNat_le b
  omega
theorem by_half {x y : Nat} (h1 : x / 2 = y / 2) (h2 : x % 2 = y % 2) : x = y := by omega
theorem bmod {b : Bool} {r : List Bool} : bv (b :: r) % 2 ^ 1 = b.toNat := bv_mod
theorem tmod (x : Bool) : x.toNat % 2 ^ 1 = x.toNat := by cases x <;> rfl
theorem tdiv (x : Bool) : x.toNat / 2 = 0 := by cases x <;> rfl
theorem by_half1 {x y : Nat} (h1 : x / 2 = y / 2) (h2 : x % 2 ^ 1 = y % 2 ^ 1) : x = y := by omega
theorem bv_xor {b : Bool} {r : List Bool} {x : Bool} : bv (b :: r) ^^^ x.toNat = bv ((b != x) :: r) := by
  apply by_half1
  · rw [Nat.xor_div_two, bv_div, bv_div, tdiv]; exact Nat.xor_zero _
  · rw [Nat.xor_mod_two_pow, bmod, bmod, tmod]; cases b <;> cases x <;> rfl
theorem bv_not {b : Bool} {r : List Bool} : bv (b :: r) ^^^ 1 = bv ((!b) :: r) := by
  have := bv_xor (b := b) (r := r) (x := true)
  rw [show (b != true) = !b by cases b <;> rfl] at this
  exact this
theorem bv_or {b : Bool} {r : List Bool} {x : Bool} : bv (b :: r) ||| x.toNat = bv ((b || x) :: r) := by
  apply by_half1
  · rw [Nat.or_div_two, bv_div, bv_div, tdiv]; exact Nat.or_zero _
  · rw [Nat.or_mod_two_pow, bmod, bmod, tmod]; cases b <;> cases x <;> rfl
theorem bv_push {r : List Bool} {x : Bool} : (bv r * 2) ||| x.toNat = bv (x :: r) := by
  have := bv_or (b := false) (r := r) (x := x)
  rw [show bv (false :: r) = bv r * 2 by show 0 + 2 * bv r = _; omega, Bool.false_or] at this
  exact this
theorem and_m2 {n : Nat} (h : n < 2 ^ 31) : nI n &&& (-2 : Int32) = nI (2 * (n / 2)) := by
  have e : (-2 : Int32) = nI 4294967294 := by decide
  rw [e, nI_and]
  refine congrArg nI (by_half1 ?_ ?_)
  · rw [Nat.and_div_two, show (4294967294 : Nat) / 2 = 2 ^ 31 - 1 by decide, Nat.and_two_pow_sub_one_eq_mod]; omega
  · rw [Nat.and_mod_two_pow, show (4294967294 : Nat) % 2 ^ 1 = 0 by decide, Nat.and_zero]; omega
theorem and_m1 {n : Nat} (h : n < 2 ^ 31) : nI n &&& (-1 : Int32) = nI n := by
  have e : (-1 : Int32) = nI (2 ^ 32 - 1) := by decide
  rw [e, nI_and, Nat.and_two_pow_sub_one_eq_mod, Nat.mod_eq_of_lt (by omega)]
theorem and_1 {b : Bool} {r : List Bool} (h : bv (b :: r) < 2 ^ 31) : nI (bv (b :: r)) &&& (1 : Int32) = nI b.toNat := by
  rw [pk_andN (by omega) 1 (by decide)]
  exact congrArg nI bmod
theorem shr1 {n : Nat} (h : n < 2 ^ 31) : nI n >>> ((1 : Int32) &&& 31) = nI (n / 2) := pk_shrN h _ 1 (by decide)
theorem shl1 {n : Nat} (h : n < 2 ^ 31) : nI n <<< ((1 : Int32) &&& 31) = nI (n * 2) := pk_shlN _ 1 (by decide) (by omega)
