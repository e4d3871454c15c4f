theorem nI_or (a b : Nat) : nI a ||| nI b = nI (a ||| b) := by
  apply Int32.toBitVec_inj.1
  show BitVec.ofNat 32 a ||| BitVec.ofNat 32 b = BitVec.ofNat 32 (a ||| b)
  apply BitVec.eq_of_getLsbD_eq
  intro i hi
  simp [hi]
theorem b01_nI (b : Bool) : b01 b = nI b.toNat := by cases b <;> rfl
theorem stepX_small {c : Nat} (h : c < 1800) : stepX c = nI c := by
  unfold stepX
  rw [if_neg (by omega), if_neg (by omega), if_neg (by omega)]
theorem X_holds_lp {h : hp} {w : Nat} {F : Nat → Nat} (hk : wdK h w) (hF : ∀ j, j < 6 → aI h 35 j = nI (F j) ∧ F j < 2 ^ 31) : ∀ (cs : List Nat) (st : List Bool) (o n : Nat), dep cs st.length = some 1 → st.length ≤ 20 → o + cs.length ≤ 100 → (∀ i d, cs[i]? = some d → aI h (w + 4) (o + i) = stepX d) → cs.length < n → f_X9_holds_6 h n w (nI (o + cs.length)) 35 (nI (bv st)) (nI o) = some (b01 (decide ((evl F cs st).head? = some true))) := by
  intro cs
  induction cs with
  | nil =>
    intro st o n h1 h2 h3 h4 h5
    obtain ⟨n, rfl⟩ : ∃ m, n = m + 1 := ⟨n - 1, by omega⟩
    have hl : st.length = 1 := Option.some.inj h1
    match st, hl with
    | [b], _ =>
      rw [f_X9_holds_6, if_neg (nI_nlt (by simp) (by simp at h3 ⊢; omega)), and_1 (by have := bv_lt [b]; simp only [List.length_cons, List.length_nil] at this; omega)]
      cases b <;> rfl
  | cons c cs ih =>
    intro st o n h1 h2 h3 h4 h5
    obtain ⟨n, rfl⟩ : ∃ m, n = m + 1 := ⟨n - 1, by omega⟩
    simp only [List.length_cons] at h3 h5
    have hb : bv st < 2 ^ 20 := bv_lt20 h2
    obtain ⟨k1, k2, ⟨-, -, -, k3⟩, -, -, -, k4⟩ := hk
    have hA := fun (a : Option Int32) => ckA_of (b := 1) (h := h) (i := w + 4) (e := 0) (n := 100) (a := a) k4 k3 (by decide)
    have hl : alen h (w + 4) = 100 := (hA none).2
    have hcl : (nI o).toNatClampNeg = o := nI_clamp (by omega)
    have hc0 : aI h (w + 4) o = stepX c := h4 0 c rfl
    have hnx : ∀ i d, cs[i]? = some d → aI h (w + 4) (o + 1 + i) = stepX d := fun i d hi => by
      have := h4 (i + 1) d hi
      rwa [show o + (i + 1) = o + 1 + i by omega] at this
    have hen : o + (c :: cs).length = o + 1 + cs.length := by simp only [List.length_cons]; omega
    have go := fun (st2 : List Bool) (g1 : dep cs st2.length = some 1) (g2 : st2.length ≤ 20) => ih st2 (o + 1) n g1 g2 (by omega) hnx (by omega)
    rw [f_X9_holds_6, if_pos (nI_lt (by simp) (by simp only [List.length_cons]; omega)), ckO_of k1 k2, (hA _).1, hl, chk_of (vp_in_nI (by omega) (by decide)), nm_eq, hcl, hc0, nm_eq, hen]
    show _ = some (b01 (decide ((evl F cs (stp F c st)).head? = some true)))
    unfold dep at h1
    by_cases e1 : c = 2001
    · subst e1
      rw [if_pos rfl] at h1
      rw [if_pos (show stepX 2001 = (-1 : Int32) from rfl)]
      match st, h1, h2 with
      | [], h1, _ => simp at h1
      | b :: r, h1, h2 =>
        rw [if_pos (by simp)] at h1
        unfold f_X9_holds_111
        rw [nm_eq, nm_eq, show (1 : Int32) = nI 1 from rfl, nI_xor, bv_not, nI_add]
        exact go ((!b) :: r) h1 h2
    · rw [if_neg e1] at h1
      by_cases e2 : c = 2002
      · subst e2
        rw [if_pos (Or.inl rfl)] at h1
        rw [if_neg (show ¬ stepX 2002 = (-1 : Int32) by decide), if_pos (show stepX 2002 = (-2 : Int32) from rfl)]
        match st, h1, h2, hb with
        | [], h1, _, _ => simp at h1
        | [x], h1, _, _ => simp at h1
        | a :: b :: r, h1, h2, hb =>
          rw [if_pos (by simp)] at h1
          have hb2 : bv (b :: r) < 2 ^ 31 := by have := bv_div (b := a) (r := b :: r); omega
          rw [and_1 (by omega), shr1 (by omega), bv_div]
          unfold f_X9_holds_65 f_X9_holds_111
          cases a
          · rw [if_neg (by decide), nm_eq, nm_eq, and_m2 hb2, bv_div, show (1 : Int32) = nI 1 from rfl, nI_add, show 2 * bv r = bv (false :: r) by show _ = 0 + 2 * bv r; omega]
            have := go (false :: r) h1 (by simp only [List.length_cons] at h2 ⊢; omega)
            rw [show stp F 2002 (false :: b :: r) = false :: r by cases b <;> rfl]
            exact this
          · rw [if_pos (by decide), nm_eq, nm_eq, and_m1 hb2, show (1 : Int32) = nI 1 from rfl, nI_add]
            have := go (b :: r) h1 (by simp only [List.length_cons] at h2 ⊢; omega)
            rw [show stp F 2002 (true :: b :: r) = b :: r by cases b <;> rfl]
            exact this
      · by_cases e3 : c = 2003
        · subst e3
          rw [if_pos (Or.inr rfl)] at h1
          rw [if_neg (show ¬ stepX 2003 = (-1 : Int32) by decide), if_neg (show ¬ stepX 2003 = (-2 : Int32) by decide), if_pos (show stepX 2003 = (-3 : Int32) from rfl)]
          match st, h1, h2, hb with
          | [], h1, _, _ => simp at h1
          | [x], h1, _, _ => simp at h1
          | a :: b :: r, h1, h2, hb =>
            rw [if_pos (by simp)] at h1
            unfold f_X9_holds_111
            rw [and_1 (by omega), shr1 (by omega), bv_div, nm_eq, nm_eq, nI_or, bv_or, show (1 : Int32) = nI 1 from rfl, nI_add]
            exact go ((b || a) :: r) h1 (by simp only [List.length_cons] at h2 ⊢; omega)
        · rw [if_neg (by omega)] at h1
          by_cases e4 : c < 1800 ∧ st.length < 20
          · rw [if_pos e4] at h1
            have hs := stepX_small e4.1
            rw [hs, if_neg (show ¬ nI c = (-1 : Int32) from fun z => by
                have := congrArg Int32.toInt z
                rw [nI_toInt (by omega)] at this
                have h0 : ((-1 : Int32)).toInt = -1 := rfl
                omega), if_neg (show ¬ nI c = (-2 : Int32) from fun z => by
                have := congrArg Int32.toInt z
                rw [nI_toInt (by omega)] at this
                have h0 : ((-2 : Int32)).toInt = -2 := rfl
                omega), if_neg (show ¬ nI c = (-3 : Int32) from fun z => by
                have := congrArg Int32.toInt z
                rw [nI_toInt (by omega)] at this
                have h0 : ((-3 : Int32)).toInt = -3 := rfl
                omega), bnr_of (X_isSo e4.1 hF), shl1 (by omega)]
            have hst : stp F c st = tst F c :: st := by unfold stp; rw [if_neg e1, if_neg e2, if_neg e3]
            rw [hst]
            have hgo := go (tst F c :: st) h1 (by simp only [List.length_cons]; omega)
            unfold f_X9_holds_108 f_X9_holds_111
            cases ht : tst F c
            · rw [ht] at hgo
              rw [if_pos (show b01 false = 0 from rfl), nm_eq, nm_eq, show (0 : Int32) = nI (false).toNat from rfl, nI_or, bv_push, show (1 : Int32) = nI 1 from rfl, nI_add]
              exact hgo
            · rw [ht] at hgo
              rw [if_neg (show ¬ b01 true = 0 by decide), nm_eq, nm_eq, show nI (bv st * 2) ||| (1 : Int32) = nI (bv (true :: st)) by rw [show (1 : Int32) = nI (true).toNat from rfl, nI_or, bv_push], show (1 : Int32) = nI 1 from rfl, nI_add]
              exact hgo
          · rw [if_neg e4] at h1; cases h1
theorem clr0 : ∀ m, m < 10 → ∀ b, b < 1024 → nI b &&& (nI (2 ^ m) ^^^ (-1 : Int32)) = nI (b &&& (1023 - 2 ^ m)) := by decide +kernel
theorem X_moved {h : hp} {v n b : Nat} (hv : v < 3) (hn : n < 2 ^ 31) (hb : b < 1024) : f_X9_moved h (nI v) (nI n) (nI b) = some (nI (mvd v n b)) := by
  have e1 : nI n - nI n / (10 : Int32) * (10 : Int32) = nI (n % 10) := rem10 hn
  have hm : n % 10 < 10 := Nat.mod_lt _ (by decide)
  unfold f_X9_moved f_X9_moved_33 mvd
  rw [nz_of (by decide), e1, one_shl _ (by omega), nm_eq]
  rcases (show v = 0 ∨ v = 1 ∨ v = 2 by omega) with rfl | rfl | rfl
  · rw [if_pos (show nI 0 = 0 from rfl), if_pos rfl, nI_or]
  · rw [if_neg (show ¬ nI 1 = 0 by decide), if_pos (show nI 1 = (1 : Int32) from rfl), if_neg (by decide), if_pos rfl]
    refine congrArg some ?_
    exact clr0 _ hm b hb
  · rw [if_neg (show ¬ nI 2 = 0 by decide), if_neg (show ¬ nI 2 = (1 : Int32) by decide), if_neg (by decide), if_neg (by decide), bnr_of (X_turned hb hn)]
