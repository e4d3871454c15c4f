-- ===== calls: shift, judge =====
theorem span_iff {n_ l : Nat} {i_ : Int32} (hl : l ≤ 60) (hn : n_ < 2 ^ 31) : (nI l - nI n_ < i_) ↔ ¬ (∃ j_, j_ + n_ ≤ l ∧ i_ = nI j_) ∧ ¬ (i_ < 0 ∧ n_ ≤ l) ∧ ¬ (i_ < 0 ∧ i_.toInt ≤ (l : Int) - n_) := by
  have e_ : (nI l - nI n_).toInt = (l : Int) - n_ := by
    have h1 : nI l - nI n_ = Int32.ofInt ((l : Int) - n_) := by
      have a1_ := nI_toInt (n := l) (by omega)
      have a2 := nI_toInt hn
      rw [← a1_, ← a2, Int32.ofInt_sub, Int32.ofInt_toInt, Int32.ofInt_toInt]
    rw [h1, Int32.toInt_ofInt_of_le (by omega) (by omega)]
  rw [Int32.lt_iff_toInt_lt, e_]
  constructor
  · intro h_
    refine ⟨?_, ?_, ?_⟩
    · rintro ⟨j_, h1, rfl⟩
      rw [nI_toInt (by omega)] at h_; omega
    · rintro ⟨h1, h2⟩
      rw [Int32.lt_iff_toInt_lt] at h1
      have : ((0 : Int32)).toInt = 0 := rfl
      omega
    · rintro ⟨h1, h2⟩; omega
  · rintro ⟨h1, h2, h3⟩
    by_cases h0 : i_ < 0
    · rcases Int.lt_or_le i_.toInt ((l : Int) - n_ + 1) with hq | hq
      · exact absurd ⟨h0, by omega⟩ h3
      · omega
    · obtain ⟨j_, hj, rfl⟩ := nI_of h0
      rw [nI_toInt hj]
      rcases Nat.lt_or_ge l (j_ + n_) with hq | hq
      · omega
      · exact absurd ⟨j_, hq, rfl⟩ h1
/-- a_ span within a_ row_: both_ sides' tests -/
theorem span_X {h_ : hp} {t_ l : Nat} {i_ n_ : Int32} (ht : t_ < 6) (hl : l ≤ 60) (h2 : hI h_ (39 + 2 * t_) 2 = nI l) : f_X6_hasSpan h_ (39 + 2 * t_) i_ n_ = some (if n_ < 0 ∨ i_ < 0 ∨ nI l - n_ < i_ then 0 else 1) := by
  obtain ⟨k1_, k2_, -⟩ := tapeK (h_ := h_) ht
  unfold f_X6_hasSpan f_X6_hasSpan_30 f_X6_hasSpan_31
  rw [ckO_of k1_ k2_, ckO_of k1_ k2_, h2]
  by_cases n0_ : n_ < 0
  · rw [if_pos n0_, if_pos (Or.inl n0_)]; rfl
  · rw [if_neg n0_]
    obtain ⟨m_, hm_, rfl⟩ := nI_of n0_
    by_cases i0_ : i_ < 0
    · rw [if_pos (show nI m_ < 0 ∨ i_ < 0 ∨ nI l - nI m_ < i_ from Or.inr (Or.inl i0_)), if_pos i0_]
      split <;> rfl
    · rw [if_neg i0_]
      by_cases c1_ : l < m_
      · have : nI l - nI m_ < i_ := by
          rw [span_iff hl hm_]
          refine ⟨?_, fun h_ => i0_ h_.1, fun h_ => i0_ h_.1⟩
          rintro ⟨j_, h1, -⟩; omega
        rw [if_pos (nI_lt c1_ hm_), if_pos (Or.inr (Or.inr this))]; rfl
      · rw [if_neg (nI_nlt (by omega) (by omega))]
        by_cases c2_ : nI l - nI m_ < i_
        · rw [if_pos c2_, if_pos (Or.inr (Or.inr c2_))]; rfl
        · rw [if_neg c2_, if_neg (by rintro (h_ | h_ | h_); exact n0_ h_; exact i0_ h_; exact c2_ h_)]; rfl
theorem M_sh1 {t_ i_ n_ o j_ : Nat} (ht : t_ < 6) (hi_ : i_ + n_ ≤ 60) : ∀ m_ k_ fu h_, k_ + m_ = n_ → m_ < fu → ∃ h', f_X12_shift_104 fu h_ (nI t_) (nI i_) (nI o) (nI j_) (nI n_) (nI k_) = f_X12_shift_141 2000 h' (nI o) (nI j_) (nI n_) (0 : Int32) ∧ agL h_ h' ∧ ∀ a_ q_, aL h' a_ q_ = if a_ = 90 ∧ k_ ≤ q_ ∧ q_ < n_ then aL h_ 89 (60 * t_ + i_ + q_) else aL h_ a_ q_ := by
  intro m_
  induction m_ with
  | zero =>
    intro k_ fu h_ h1 h2
    obtain ⟨fu, rfl⟩ : ∃ z_, fu = z_ + 1 := ⟨fu - 1, by omega⟩
    rw [f_X12_shift_104, if_neg (nI_nlt (by omega) (by omega))]
    exact ⟨h_, rfl, agL.rf, fun a_ q_ => by rw [if_neg (by omega)]⟩
  | succ m_ ih_ =>
    intro k_ fu h_ h1 h2
    obtain ⟨fu, rfl⟩ : ∃ z_, fu = z_ + 1 := ⟨fu - 1, by omega⟩
    rw [f_X12_shift_104, if_pos (nI_lt (by omega) (by omega)), mul60, nI_add, nI_add, chk_of (vp_in_nI (n := 60 * t_ + i_ + k_) (N := 360) (by omega) (by decide)), chk_of (vp_in_nI (n := k_) (N := 60) (by omega) (by decide)), nm_eq, nm_eq, nI_clamp (n := k_) (by omega), nI_clamp (n := 60 * t_ + i_ + k_) (by omega), nI_1]
    obtain ⟨h', y1, y2, y3⟩ := ih_ (k_ + 1) fu (tL h_ 90 k_ (aL h_ 89 (60 * t_ + i_ + k_))) (by omega) (by omega)
    refine ⟨h', y1, agL_tL.tr y2, fun a_ q_ => ?_⟩
    rw [y3]
    by_cases e1_ : a_ = 90 ∧ k_ + 1 ≤ q_ ∧ q_ < n_
    · rw [if_pos e1_, if_pos (by omega), aL_tL, if_neg (by rintro ⟨hh, -⟩; exact absurd hh (by decide))]
    · rw [if_neg e1_, aL_tL]
      by_cases e2_ : a_ = 90 ∧ q_ = k_
      · rw [if_pos e2_, if_pos (by omega), e2_.2]
      · rw [if_neg e2_, if_neg (by omega)]
theorem M_sh2 {o j_ n_ : Nat} (ho : o < 6) (hj : j_ + n_ ≤ 60) : ∀ m_ k_ fu h_, k_ + m_ = n_ → m_ < fu → ∃ h', f_X12_shift_141 fu h_ (nI o) (nI j_) (nI n_) (nI k_) = some (h', nI n_) ∧ agL h_ h' ∧ ∀ a_ q_, aL h' a_ q_ = if a_ = 89 ∧ 60 * o + j_ + k_ ≤ q_ ∧ q_ < 60 * o + j_ + n_ then aL h_ 90 (q_ - (60 * o + j_)) else aL h_ a_ q_ := by
  intro m_
  induction m_ with
  | zero =>
    intro k_ fu h_ h1 h2
    obtain ⟨fu, rfl⟩ : ∃ z_, fu = z_ + 1 := ⟨fu - 1, by omega⟩
    rw [f_X12_shift_141, if_neg (nI_nlt (by omega) (by omega))]
    exact ⟨h_, rfl, agL.rf, fun a_ q_ => by rw [if_neg (by omega)]⟩
  | succ m_ ih_ =>
    intro k_ fu h_ h1 h2
    obtain ⟨fu, rfl⟩ : ∃ z_, fu = z_ + 1 := ⟨fu - 1, by omega⟩
    rw [f_X12_shift_141, if_pos (nI_lt (by omega) (by omega)), mul60, nI_add, nI_add, chk_of (vp_in_nI (n := k_) (N := 60) (by omega) (by decide)), chk_of (vp_in_nI (n := 60 * o + j_ + k_) (N := 360) (by omega) (by decide)), nm_eq, nm_eq, nI_clamp (n := k_) (by omega), nI_clamp (n := 60 * o + j_ + k_) (by omega), nI_1]
    obtain ⟨h', y1, y2, y3⟩ := ih_ (k_ + 1) fu (tL h_ 89 (60 * o + j_ + k_) (aL h_ 90 k_)) (by omega) (by omega)
    refine ⟨h', y1, agL_tL.tr y2, fun a_ q_ => ?_⟩
    rw [y3]
    by_cases e1_ : a_ = 89 ∧ 60 * o + j_ + (k_ + 1) ≤ q_ ∧ q_ < 60 * o + j_ + n_
    · rw [if_pos e1_, if_pos (by omega), aL_tL, if_neg (by rintro ⟨hh, -⟩; exact absurd hh (by decide))]
    · rw [if_neg e1_, aL_tL]
      by_cases e2_ : a_ = 89 ∧ q_ = 60 * o + j_ + k_
      · rw [if_pos e2_, if_pos (by omega)]
        exact congrArg (aL h_ 90) (by omega)
      · rw [if_neg e2_, if_neg (by omega)]
theorem ckC_of {α : Type} {p_ q_ n_ n0_ n1_ : Nat} {a_ : Option α} (h1 : p_ + n_ ≤ n0_) (h2 : q_ + n_ ≤ n1_) (hb_ : p_ < 2 ^ 31 ∧ q_ < 2 ^ 31 ∧ n_ < 2 ^ 31) : ckC (nI p_) (nI q_) (nI n_) n0_ n1_ a_ = a_ := by
  unfold ckC
  rw [if_pos]
  refine ⟨nI_pos hb_.1, nI_pos hb_.2.1, nI_pos hb_.2.2, ?_, ?_⟩
  · rw [nI_clamp hb_.1, nI_clamp hb_.2.2]; exact h1
  · rw [nI_clamp hb_.2.1, nI_clamp hb_.2.2]; exact h2
theorem s_shift {hx hm_ : hp} (H_ : Sim hx hm_) (a_ b_ c_ d_ e_ : Int32) : ∃ hx' hm' r_, f_X11_shift hx a_ b_ c_ d_ e_ = some (hx', r_) ∧ f_X12_shift hm_ a_ b_ c_ d_ e_ = some (hm', r_) ∧ Sim hx' hm' := by
  have H0 := H_
  obtain ⟨S_, hX, hM_, hok, ht⟩ := H_
  unfold f_X11_shift f_X12_shift f_X11_shift_14 f_X11_shift_50 f_X11_shift_92 f_X12_shift_16 f_X12_shift_36 f_X12_shift_98
  rw [bnr_of X_isTape, bnr_of M_isTape, bnr_of X_isTape, bnr_of M_isTape]
  rcases arg_split a_ 6 (by decide) with ⟨t_, ht6, rfl⟩ | hx0
  · rw [if_neg (arg_no ht6 (by decide)), if_neg ne10, if_neg ne10]
    rcases arg_split c_ 6 (by decide) with ⟨o, ho6, rfl⟩ | hx1
    · rw [if_neg (arg_no ho6 (by decide)), if_neg ne10, if_neg ne10]
      obtain ⟨t1_, t2_, t3_, t4_, t5_⟩ := ht t_ ht6
      obtain ⟨u1_, u2_, u3, u4_, u5⟩ := ht o ho6
      obtain ⟨n_, n1_, n2_, n3_, n4_⟩ := tpO_n t4_
      obtain ⟨l, l1, l2, l3, l4⟩ := tpO_n u4_
      obtain ⟨k1_, k2_, k3_, k4_⟩ := tapeK (h_ := hx) ht6
      obtain ⟨j1, j2_, j3_, j4_⟩ := tapeK (h_ := hx) ho6
      have hin : vp_in (nI t_) 6 := vp_in_nI ht6 (by decide)
      have hio : vp_in (nI o) 6 := vp_in_nI ho6 (by decide)
      have hA := fun (y_ : Option (hp × Int32)) => ckA_of (b := 1) (h := hx) (i := 39 + 2 * t_ + 1) (e := 3) (n := 60) (a := y_) k3_ k4_ (by decide)
      have hB_ := fun (y_ : Option (hp × Int32)) => ckA_of (b := 1) (h := hx) (i := 39 + 2 * o + 1) (e := 3) (n := 60) (a := y_) j3_ j4_ (by decide)
      rw [chk_of hin, nI_clamp (n := t_) (by omega), onO_of t1_, chk_of hio, nI_clamp (n := o) (by omega), onO_of u1_, ckO_of k1_ k2_, chk_of hin, t2_, chk_of hio, u2_]
      rcases n4_ with ⟨e1_, e2_⟩ | ⟨z_, z5, e1_, e2_, e3_⟩
      · rw [if_pos e1_, if_pos e2_]
        exact ⟨hx, hm_, _, rfl, rfl, H0⟩
      · rw [if_neg e3_, if_neg e2_, ckO_of j1 j2_]
        rcases l4 with ⟨f1_, f2_⟩ | ⟨y_, y5, f1_, f2_, f3_⟩
        · rw [if_pos f1_, if_pos f2_]
          exact ⟨hx, hm_, _, rfl, rfl, H0⟩
        · rw [if_neg f3_, if_neg f2_, ckO_of k1_ k2_, ckO_of j1 j2_, chk_of hin, chk_of hio]
          by_cases same_ : hI hx (39 + 2 * t_) 1 = hI hx (39 + 2 * o) 1
          · rw [if_pos same_, if_pos same_, ckO_of k1_ k2_, bnr_of (span_X ht6 n1_ n2_), ckO_of j1 j2_, bnr_of (span_X ho6 l1 l2), chk_of hin, chk_of hio, t3_, u3, n2_, l2]
            by_cases c1_ : e_ < 0
            · rw [if_pos (Or.inl c1_), if_pos rfl, if_pos c1_]
              exact ⟨hx, hm_, _, rfl, rfl, H0⟩
            · rw [if_neg c1_]
              by_cases c2_ : b_ < 0
              · rw [if_pos (show e_ < 0 ∨ b_ < 0 ∨ nI n_ - e_ < b_ from Or.inr (Or.inl c2_)), if_pos rfl, if_pos c2_]
                exact ⟨hx, hm_, _, rfl, rfl, H0⟩
              · rw [if_neg c2_]
                by_cases c3_ : d_ < 0
                · rw [if_pos c3_, if_pos (show e_ < 0 ∨ d_ < 0 ∨ nI l - e_ < d_ from Or.inr (Or.inl c3_)), if_pos rfl]
                  refine ⟨hx, hm_, _, ?_, rfl, H0⟩
                  split <;> rfl
                · rw [if_neg c3_]
                  by_cases c4_ : nI n_ - e_ < b_
                  · rw [if_pos (show e_ < 0 ∨ b_ < 0 ∨ nI n_ - e_ < b_ from Or.inr (Or.inr c4_)), if_pos rfl, if_pos c4_]
                    exact ⟨hx, hm_, _, rfl, rfl, H0⟩
                  · have g1 : ¬ (e_ < 0 ∨ b_ < 0 ∨ nI n_ - e_ < b_) := fun hq => hq.elim c1_ (fun hq => hq.elim c2_ c4_)
                    rw [if_neg g1, if_neg ne10, if_neg c4_]
                    by_cases c5_ : nI l - e_ < d_
                    · rw [if_pos (show e_ < 0 ∨ d_ < 0 ∨ nI l - e_ < d_ from Or.inr (Or.inr c5_)), if_pos rfl, if_pos c5_]
                      exact ⟨hx, hm_, _, rfl, rfl, H0⟩
                    · have g2 : ¬ (e_ < 0 ∨ d_ < 0 ∨ nI l - e_ < d_) := fun hq => hq.elim c1_ (fun hq => hq.elim c3_ c5_)
                      obtain ⟨m_, hm31, rfl⟩ := nI_of c1_
                      obtain ⟨i_, hi31, rfl⟩ := nI_of c2_
                      obtain ⟨j_, hj31, rfl⟩ := nI_of c3_
                      have i1_ : i_ + m_ ≤ n_ := by
                        rcases Nat.lt_or_ge n_ (i_ + m_) with h_ | h_
                        · exfalso
                          refine c4_ ((span_iff n1_ hm31).mpr ⟨?_, fun q_ => c2_ q_.1, fun q_ => c2_ q_.1⟩)
                          rintro ⟨q_, q1_, q2_⟩
                          have := (nI_eq hi31 (by omega)).mp q2_
                          omega
                        · exact h_
                      have i2_ : j_ + m_ ≤ l := by
                        rcases Nat.lt_or_ge l (j_ + m_) with h_ | h_
                        · exfalso
                          refine c5_ ((span_iff l1 hm31).mpr ⟨?_, fun q_ => c3_ q_.1, fun q_ => c3_ q_.1⟩)
                          rintro ⟨q_, q1_, q2_⟩
                          have := (nI_eq hj31 (by omega)).mp q2_
                          omega
                        · exact h_
                      rw [if_neg g2, if_neg ne10, if_neg c5_, ckO_of k1_ k2_, ckO_of j1 j2_, (hA _).1, (hB_ _).1, (hA none).2, (hB_ none).2, ckC_of (by omega) (by omega) ⟨hi31, hj31, hm31⟩, nm_eq, nI_clamp hi31, nI_clamp hj31, nI_clamp hm31]
                      obtain ⟨h1, y1, y2, y3⟩ := M_sh1 (i_ := i_) (n_ := m_) (o := o) (j_ := j_) ht6 (by omega) m_ 0 2000 hm_ (Nat.zero_add _) (by omega)
                      obtain ⟨h2, z1, z2, z3⟩ := M_sh2 (j_ := j_) (n_ := m_) ho6 (by omega) m_ 0 2000 h1 (Nat.zero_add _) (by omega)
                      refine ⟨_, h2, nI m_, rfl, y1.trans z1, S_, ?_, RM_agL (y2.tr z2) hM_, hok, fun t' ht' => ?_⟩
                      · refine RX_tape (h_ := hx) (agL_X (h_ := hx) ⟨rfl, rfl, rfl, rfl⟩ (fun q_ hq => ?_)) hX
                        funext k_
                        have cp1 : ∀ x_ y_, x_ ≠ 39 + 2 * o + 1 → aL (cpL hx (39 + 2 * t_ + 1) (39 + 2 * o + 1) i_ j_ m_) x_ y_ = aL hx x_ y_ := fun x_ y_ hxy => if_neg hxy
                        first | exact cp1 q_ k_ (by omega) | exact (cp1 q_ k_ (by omega)).symm
                      · obtain ⟨v1_, v2, v3, v4_, v5⟩ := ht t' ht'
                        have yz := y2.tr z2
                        refine ⟨v1_, by rw [yz.aI]; exact v2, by rw [yz.aI]; exact v3, v4_, fun k_ hk => ?_⟩
                        rw [z3]
                        show _ = (if 40 + 2 * t' = 39 + 2 * o + 1 then va_cpy (aL hx (39 + 2 * t_ + 1)) (aL hx (39 + 2 * o + 1)) i_ j_ m_ k_ else aL hx (40 + 2 * t') k_)
                        by_cases e9_ : t' = o
                        · subst e9_
                          rw [if_pos (show 40 + 2 * t' = 39 + 2 * t' + 1 by omega)]
                          by_cases e8 : j_ ≤ k_ ∧ k_ < j_ + m_
                          · rw [if_pos (by omega), pk_cpy_in e8.1 e8.2, y3, if_pos (by omega)]
                            have := t5_ (i_ + (k_ - j_)) (by omega)
                            rw [show 39 + 2 * t_ + 1 = 40 + 2 * t_ by omega, ← this]
                            exact congrArg (aL hm_ 89) (by omega)
                          · rw [if_neg (by omega), pk_cpy_out (by omega), y3, if_neg (by rintro ⟨hh, -⟩; exact absurd hh (by decide)), show 39 + 2 * t' + 1 = 40 + 2 * t' by omega]
                            exact v5 k_ hk
                        · rw [if_neg (by omega), if_neg (by omega), y3, if_neg (by rintro ⟨hh, -⟩; exact absurd hh (by decide))]
                          exact v5 k_ hk
          · rw [if_neg same_, if_neg same_]
            exact ⟨hx, hm_, _, rfl, rfl, H0⟩
    · rw [if_pos hx1, if_pos rfl, if_pos rfl]
      exact ⟨hx, hm_, _, rfl, rfl, H0⟩
  · rw [if_pos hx0, if_pos rfl, if_pos rfl]
    exact ⟨hx, hm_, _, rfl, rfl, H0⟩
