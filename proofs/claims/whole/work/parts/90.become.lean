-- ===== calls: image, undo =====
/-- the kinds of_ a_ scene's objects at b_ -/
def SK (h_ : hp) (b_ : Nat) : Prop := (kdOf h_ b_ = 5 ∧ kdOf h_ (b_ + 1) = 4 ∧ kdOf h_ (b_ + 2) = 120 ∧ kdOf h_ (b_ + 3) = 94 ∧ kdOf h_ (b_ + 4) = 90 ∧ kdOf h_ (b_ + 5) = 240 ∧ kdOf h_ (b_ + 6) = 4 ∧ kdOf h_ (b_ + 7) = 90 ∧ kdOf h_ (b_ + 8) = 4 ∧ kdOf h_ (b_ + 9) = 120 ∧ kdOf h_ (b_ + 10) = 4 ∧ kdOf h_ (b_ + 11) = 120) ∧ ∀ j_, j_ ≤ 11 → sd 1 (b_ + j_) = true
theorem SK_1 (h_ : hp) : SK h_ 1 := ⟨⟨rfl, rfl, rfl, rfl, rfl, rfl, rfl, rfl, rfl, rfl, rfl, rfl⟩, by decide⟩
theorem SK_13 (h_ : hp) : SK h_ 13 := ⟨⟨rfl, rfl, rfl, rfl, rfl, rfl, rfl, rfl, rfl, rfl, rfl, rfl⟩, by decide⟩
theorem SK_kd {h_ h' : hp} {b_ : Nat} (hk : ∀ j_, kdOf h' j_ = kdOf h_ j_) (H_ : SK h_ b_) : SK h' b_ := by
  obtain ⟨⟨a0_, a1_, a2, a3, a4, a5, a6, a7, a8, a9, a10, a11⟩, s_⟩ := H_
  exact ⟨⟨(hk _).trans a0_, (hk _).trans a1_, (hk _).trans a2, (hk _).trans a3, (hk _).trans a4, (hk _).trans a5, (hk _).trans a6, (hk _).trans a7, (hk _).trans a8, (hk _).trans a9, (hk _).trans a10, (hk _).trans a11⟩, s_⟩
/-- a_ row_ becomes another -/
theorem X2_become_lp {h0 : hp} {r_ u_ lim c_ : Nat} (hd_ : r_ + 1 < u_ ∨ u_ + 1 < r_) (ku : sd 1 u_ = true ∧ kdOf h0 u_ = 4 ∧ sd 1 (u_ + 1) = true ∧ kdOf h0 (u_ + 1) = 40 + 10 * lim) (kr : sd 1 r_ = true ∧ kdOf h0 r_ = 4 ∧ sd 1 (r_ + 1) = true ∧ kdOf h0 (r_ + 1) = 40 + 10 * lim) (hc_ : c_ ≤ lim) (hl : lim ≤ 100) (h1 : hI h0 u_ 1 = nI c_) : ∀ m_ k_ n_ h_, k_ + m_ = c_ → m_ < n_ → agX (fun j_ => r_ ≤ j_ ∧ j_ ≤ r_ + 1) h0 h_ → hI h_ r_ 1 = nI k_ → (∀ j_, j_ < k_ → aI h_ (r_ + 1) j_ = aI h0 (u_ + 1) j_) → ∃ h', f_X2_become_7 n_ h_ r_ u_ (nI k_) = some (h', ()) ∧ agX (fun j_ => r_ ≤ j_ ∧ j_ ≤ r_ + 1) h0 h' ∧ hI h' r_ 1 = nI c_ ∧ ∀ j_, j_ < c_ → aI h' (r_ + 1) j_ = aI h0 (u_ + 1) j_ := by
  intro m_
  induction m_ with
  | zero =>
    intro k_ n_ h_ g1 g2 x_ g3_ g4
    obtain ⟨n_, rfl⟩ : ∃ j_, n_ = j_ + 1 := ⟨n_ - 1, by omega⟩
    have e_ : hI h_ u_ 1 = nI c_ := by rw [(x_.2 u_ (by omega)).1]; exact h1
    have hk : k_ = c_ := by omega
    subst hk
    rw [f_X2_become_7, ckO_of ku.1 ((x_.kd u_).trans ku.2.1), e_, if_neg (nI_nlt (by omega) (by omega))]
    exact ⟨h_, rfl, x_, g3_, g4⟩
  | succ m_ ih_ =>
    intro k_ n_ h_ g1 g2 x_ g3_ g4
    obtain ⟨n_, rfl⟩ : ∃ j_, n_ = j_ + 1 := ⟨n_ - 1, by omega⟩
    have e_ : hI h_ u_ 1 = nI c_ := by rw [(x_.2 u_ (by omega)).1]; exact h1
    have ea : aI h_ (u_ + 1) = aI h0 (u_ + 1) := (x_.2 (u_ + 1) (by omega)).2.2.1
    have k1_ := (x_.kd u_).trans ku.2.1
    have hA := fun (y_ : Option (hp × Unit)) => ckA_of (b := 1) (h := h_) (i := u_ + 1) (e := 0) (n := lim) (a := y_) ku.2.2.1 ((x_.kd _).trans ku.2.2.2) (by decide)
    have R_ : rwX h_ r_ lim k_ := ⟨kr.1, (x_.kd _).trans kr.2.1, kr.2.2.1, (x_.kd _).trans kr.2.2.2, g3_, by omega, hl⟩
    rw [f_X2_become_7, ckO_of ku.1 k1_, e_, if_pos (nI_lt (by omega) (by omega)), ckO_of ku.1 k1_, (hA _).1, (hA none).2, chk_of (vp_in_nI (n := k_) (N := lim) (by omega) (by omega)), nI_clamp (n := k_) (by omega), ckO_of kr.1 ((x_.kd r_).trans kr.2.1), bnd_of (X2_add R_ (by omega)), nm_eq, nI_1, ea]
    refine ih_ (k_ + 1) n_ _ (by omega) (by omega) ((x_.tr (agX_tI (by omega))).tr (agX_sI (by omega))) ?_ (fun j_ hj => ?_)
    · rw [hI_sI, if_pos ⟨rfl, rfl⟩]
    · rw [aI_sI, aI_tI]
      by_cases ej : j_ = k_
      · rw [if_pos ⟨rfl, ej⟩, ej]
      · rw [if_neg (by rintro ⟨-, hh⟩; exact ej hh)]; exact g4 j_ (by omega)
theorem X2_becomes {h_ : hp} {r_ u_ lim c_ : Nat} (hd_ : r_ + 1 < u_ ∨ u_ + 1 < r_) (ku : sd 1 u_ = true ∧ kdOf h_ u_ = 4 ∧ sd 1 (u_ + 1) = true ∧ kdOf h_ (u_ + 1) = 40 + 10 * lim) (kr : sd 1 r_ = true ∧ kdOf h_ r_ = 4 ∧ sd 1 (r_ + 1) = true ∧ kdOf h_ (r_ + 1) = 40 + 10 * lim) (hc_ : c_ ≤ lim) (hl : lim ≤ 100) (h1 : hI h_ u_ 1 = nI c_) : ∃ h', f_X2_become h_ r_ u_ = some (h', ()) ∧ agX (fun j_ => r_ ≤ j_ ∧ j_ ≤ r_ + 1) h_ h' ∧ hI h' r_ 1 = nI c_ ∧ ∀ j_, j_ < c_ → aI h' (r_ + 1) j_ = aI h_ (u_ + 1) j_ := by
  unfold f_X2_become
  rw [ckO_of kr.1 kr.2.1, nm_eq]
  have x0_ : agX (fun j_ => r_ ≤ j_ ∧ j_ ≤ r_ + 1) h_ (sI h_ r_ 1 0) := agX_sI (by omega)
  obtain ⟨h', y1, y2, y3, y4⟩ := X2_become_lp (h0 := sI h_ r_ 1 0) hd_ ku kr hc_ hl (by rw [hI_sI, if_neg (by omega)]; exact h1) c_ 0 2000 (sI h_ r_ 1 0) (Nat.zero_add _) (by omega) agX.rf (by rw [hI_sI, if_pos ⟨rfl, rfl⟩]; rfl) (fun j_ hj => by omega)
  exact ⟨h', y1, x0_.tr y2, y3, y4⟩
theorem X3_loop {h0 : hp} {b_ u_ : Nat} (hd_ : b_ + 11 < u_ ∨ u_ + 11 < b_) (kb : SK h0 b_) (ku : SK h0 u_) (hn : ∀ p_, p_ < 5 → ∀ o, aR h0 (u_ + 3) p_ = some o → sd 1 o = true ∧ kdOf h0 o ∈ sndK) : ∀ m_ k_ n_ h_, k_ + m_ = 5 → m_ < n_ → agX (fun j_ => j_ = b_ + 3) h0 h_ → (∀ j_, j_ < k_ → aR h_ (b_ + 3) j_ = aR h0 (u_ + 3) j_) → ∃ h1, agX (fun j_ => j_ = b_ + 3) h0 h1 ∧ (∀ j_, j_ < 5 → aR h1 (b_ + 3) j_ = aR h0 (u_ + 3) j_) ∧ f_X3_become_46 n_ h_ b_ u_ (nI k_) = f_X3_become_46 1 h1 b_ u_ (nI 5) := by
  intro m_
  induction m_ with
  | zero =>
    intro k_ n_ h_ g1 g2 x_ g4
    obtain ⟨n_, rfl⟩ : ∃ j_, n_ = j_ + 1 := ⟨n_ - 1, by omega⟩
    have hk : k_ = 5 := by omega
    subst hk
    refine ⟨h_, x_, g4, ?_⟩
    rw [f_X3_become_46, f_X3_become_46, if_neg (show ¬ nI 5 < (5 : Int32) by decide), if_neg (show ¬ nI 5 < (5 : Int32) by decide)]
  | succ m_ ih_ =>
    intro k_ n_ h_ g1 g2 x_ g4
    obtain ⟨n_, rfl⟩ : ∃ j_, n_ = j_ + 1 := ⟨n_ - 1, by omega⟩
    obtain ⟨⟨b0, -, -, b3, -⟩, bs⟩ := SK_kd x_.kd kb
    obtain ⟨⟨u0, -, -, u3, -⟩, us⟩ := SK_kd x_.kd ku
    have sb_ : sd 1 b_ = true := bs 0 (by omega)
    have su : sd 1 u_ = true := us 0 (by omega)
    have hB_ := fun (y_ : Option (hp × Unit)) => ckA_of (b := 1) (h := h_) (i := b_ + 3) (e := 4) (n := 5) (a := y_) (bs 3 (by omega)) b3 (by decide)
    have hU := fun (y_ : Option (hp × Unit)) => ckA_of (b := 1) (h := h_) (i := u_ + 3) (e := 4) (n := 5) (a := y_) (us 3 (by omega)) u3 (by decide)
    have ea : aR h_ (u_ + 3) = aR h0 (u_ + 3) := (x_.2 (u_ + 3) (by omega)).2.2.2.2
    have hin : vp_in (nI k_) 5 := vp_in_nI (by omega) (by decide)
    have cN_ : ∀ {y_ : Option (hp × Unit)}, ckN h_ (aR h0 (u_ + 3) k_) y_ = y_ := fun {y_} => by
      cases ho : aR h0 (u_ + 3) k_ with
      | none => rfl
      | some o =>
        obtain ⟨o1, o2⟩ := hn k_ (by omega) o ho
        exact ckS_of o1 (by rw [x_.kd]; exact o2)
    rw [f_X3_become_46, if_pos (show nI k_ < (5 : Int32) from nI_lt (b := 5) (by omega) (by decide)), ckO_of sb_ b0, ckO_of su u0, (hU _).1, (hU none).2, chk_of hin, (hB_ _).1, (hB_ none).2, chk_of hin, nI_clamp (n := k_) (by omega), ea, cN_, nm_eq, nm_eq, nI_1]
    refine ih_ (k_ + 1) n_ _ (by omega) (by omega) (x_.tr (agX_tR rfl)) (fun j_ hj => ?_)
    rw [aR_tR]
    by_cases ej : j_ = k_
    · rw [if_pos ⟨rfl, ej⟩, ej]
    · rw [if_neg (by rintro ⟨-, hh⟩; exact ej hh)]; exact g4 j_ (by omega)
theorem agX_cpI {P_ : Nat → Prop} {h_ : hp} {i_ j_ n_ : Nat} (hp : P_ j_) : agX P_ h_ (cpI h_ i_ j_ 0 0 n_) := ⟨rfl, fun a_ ha_ => ⟨rfl, rfl, by funext k_; show (if a_ = j_ then _ else aI h_ a_ k_) = _; rw [if_neg (fun e_ => ha_ (by rw [e_]; exact hp))], rfl, rfl⟩⟩
theorem cpI_at {h_ : hp} {i_ j_ n_ k_ : Nat} (hk : k_ < n_) : aI (cpI h_ i_ j_ 0 0 n_) j_ k_ = aI h_ i_ k_ := by
  show (if j_ = j_ then va_cpy (aI h_ i_) (aI h_ j_) 0 0 n_ k_ else _) = _
  rw [if_pos rfl, pk_cpy_in (Nat.zero_le _) (by omega), Nat.sub_zero, Nat.zero_add]
theorem X3_becomes {h_ : hp} {b_ u_ : Nat} {σ : scn} (hd_ : b_ + 11 < u_ ∨ u_ + 11 < b_) (hb27 : b_ + 11 < 27 ∧ u_ + 11 < 27) (kb : SK h_ b_) (ku : SK h_ u_) (hsc : scX h_ u_ σ) (hnl : ∀ p_, sp σ ≤ p_ → p_ < 5 → aR h_ (u_ + 3) p_ = none) (hok : scOK σ) : ∃ h', f_X3_become h_ b_ u_ = some (h', ()) ∧ agX (fun j_ => b_ ≤ j_ ∧ j_ ≤ b_ + 11) h_ h' ∧ scX h' b_ σ ∧ (∀ p_, sp σ ≤ p_ → p_ < 5 → aR h' (b_ + 3) p_ = none) ∧ hR h' b_ 9 = hR h_ u_ 9 := by
  obtain ⟨⟨b0, b1, b2, b3, b4, b5, b6, b7, b8, b9, b10, b11⟩, bs⟩ := id kb
  obtain ⟨⟨u0, u1_, u2_, u3, u4_, u5, u6, u7, u8, u9, u10, u11⟩, us⟩ := id ku
  obtain ⟨q1_, q2_, q3_, q4_, q5_, q6_, q7_⟩ := hsc
  have sb_ : sd 1 b_ = true := bs 0 (by omega)
  have su : sd 1 u_ = true := us 0 (by omega)
  have wide_ : ∀ {r_ : Nat} {h_ h' : hp}, b_ ≤ r_ → r_ + 1 ≤ b_ + 11 → agX (fun j_ => r_ ≤ j_ ∧ j_ ≤ r_ + 1) h_ h' → agX (fun j_ => b_ ≤ j_ ∧ j_ ≤ b_ + 11) h_ h' := fun h1 h2 x_ => agX_up (fun a_ ha_ => by omega) x_
  unfold f_X3_become
  rw [ckO_of sb_ b0, ckO_of su u0, ckO_of (bs 1 (by omega)) b1]
  obtain ⟨h1, x1_, x2_, x3, x4_⟩ := X2_becomes (h_ := h_) (r_ := b_ + 1) (u_ := u_ + 1) (lim := 8) (c_ := sn σ) (by omega) ⟨us 1 (by omega), u1_, us 2 (by omega), u2_⟩ ⟨bs 1 (by omega), b1, bs 2 (by omega), b2⟩ hok.1.1 (by decide) q1_.1
  have w1_ := wide_ (by omega) (by omega) x2_
  rw [bnd_of x1_, ckO_of sb_ ((x2_.kd _).trans b0), ckO_of su ((x2_.kd _).trans u0), ckO_of (bs 6 (by omega)) ((x2_.kd _).trans b6)]
  obtain ⟨h2, y1, y2, y3, y4⟩ := X2_becomes (h_ := h1) (r_ := b_ + 6) (u_ := u_ + 6) (lim := 5) (c_ := σ.2.2.2.1.1) (by omega) ⟨us 6 (by omega), (w1_.kd _).trans u6, us 7 (by omega), (w1_.kd _).trans u7⟩ ⟨bs 6 (by omega), (w1_.kd _).trans b6, bs 7 (by omega), (w1_.kd _).trans b7⟩ hok.2.2.2.1.1 (by decide) (by rw [(w1_.2 (u_ + 6) (by omega)).1]; exact q4_.1)
  have w2_ := w1_.tr (wide_ (by omega) (by omega) y2)
  rw [bnd_of y1, ckO_of sb_ ((w2_.kd _).trans b0), ckO_of su ((w2_.kd _).trans u0), ckO_of (bs 8 (by omega)) ((w2_.kd _).trans b8)]
  obtain ⟨h3, z1, z2, z3, z4⟩ := X2_becomes (h_ := h2) (r_ := b_ + 8) (u_ := u_ + 8) (lim := 8) (c_ := σ.2.2.2.2.1.1) (by omega) ⟨us 8 (by omega), (w2_.kd _).trans u8, us 9 (by omega), (w2_.kd _).trans u9⟩ ⟨bs 8 (by omega), (w2_.kd _).trans b8, bs 9 (by omega), (w2_.kd _).trans b9⟩ hok.2.2.2.2.1.1 (by decide) (by rw [(w2_.2 (u_ + 8) (by omega)).1]; exact q5_.1)
  have w3_ := w2_.tr (wide_ (by omega) (by omega) z2)
  rw [bnd_of z1, ckO_of sb_ ((w3_.kd _).trans b0), ckO_of su ((w3_.kd _).trans u0), ckO_of (bs 10 (by omega)) ((w3_.kd _).trans b10)]
  obtain ⟨h4, v1_, v2, v3, v4_⟩ := X2_becomes (h_ := h3) (r_ := b_ + 10) (u_ := u_ + 10) (lim := 8) (c_ := σ.2.2.2.2.2.1.1) (by omega) ⟨us 10 (by omega), (w3_.kd _).trans u10, us 11 (by omega), (w3_.kd _).trans u11⟩ ⟨bs 10 (by omega), (w3_.kd _).trans b10, bs 11 (by omega), (w3_.kd _).trans b11⟩ hok.2.2.2.2.2.1.1 (by decide) (by rw [(w3_.2 (u_ + 10) (by omega)).1]; exact q6_.1)
  have w4_ := w3_.tr (wide_ (by omega) (by omega) v2)
  rw [bnd_of v1_]
  have hnn_ : ∀ p_, p_ < 5 → ∀ o, aR h4 (u_ + 3) p_ = some o → sd 1 o = true ∧ kdOf h4 o ∈ sndK := by
    intro p_ hp o ho
    rw [(w4_.2 (u_ + 3) (by omega)).2.2.2.2] at ho
    by_cases hps : p_ < sp σ
    · obtain ⟨o', ho', hs⟩ := q2_.2.1 p_ hps
      rw [ho'] at ho
      have := Option.some.inj ho
      subst this
      exact ⟨hs.1, by rw [w4_.kd, hs.2.2.1]; exact sndQ_in⟩
    · rw [hnl p_ (by omega) hp] at ho; cases ho
  obtain ⟨h5, s1_, s2_, s3_⟩ := X3_loop (h0 := h4) hd_ (SK_kd w4_.kd kb) (SK_kd w4_.kd ku) hnn_ 5 0 2000 h4 rfl (by decide) agX.rf (fun j_ hj => by omega)
  have w5 : agX (fun j_ => b_ ≤ j_ ∧ j_ ≤ b_ + 11) h_ h5 := w4_.tr (agX_up (fun a_ ha_ => by omega) s1_)
  have s3_ : f_X3_become_46 2000 h4 b_ u_ (0 : Int32) = f_X3_become_46 1 h5 b_ u_ (nI 5) := s3_
  rw [s3_, f_X3_become_46, if_neg (show ¬ nI 5 < (5 : Int32) by decide), ckO_of su ((w5.kd _).trans u0), ckO_of sb_ ((w5.kd _).trans b0), nm_eq]
  generalize g6e : sI h5 b_ 2 (hI h5 u_ 2) = h6
  have t6 : agX (fun j_ => b_ ≤ j_ ∧ j_ ≤ b_ + 11) h5 h6 := by rw [← g6e]; exact agX_sI (by omega)
  have w6_ := w5.tr t6
  have hA := fun (h' : hp) (i_ n_ : Nat) (y_ : Option (hp × Unit)) (s_ : sd 1 i_ = true) (k_ : kdOf h' i_ = 40 + 10 * n_ + 0) => ckA_of (b := 1) (h := h') (i := i_) (e := 0) (n := n_) (a := y_) s_ k_ (by decide)
  rw [ckO_of su ((w6_.kd _).trans u0), ckO_of sb_ ((w6_.kd _).trans b0), (hA h6 (u_ + 4) 5 _ (us 4 (by omega)) ((w6_.kd _).trans u4_)).1, (hA h6 (b_ + 4) 5 _ (bs 4 (by omega)) ((w6_.kd _).trans b4)).1, (hA h6 (u_ + 4) 5 none (us 4 (by omega)) ((w6_.kd _).trans u4_)).2, (hA h6 (b_ + 4) 5 none (bs 4 (by omega)) ((w6_.kd _).trans b4)).2, show ∀ y_ : Option (hp × Unit), ckC (0 : Int32) (0 : Int32) (5 : Int32) 5 5 y_ = y_ from fun y_ => ckC_of (p_ := 0) (q_ := 0) (n_ := 5) (by decide) (by decide) (by decide), nm_eq]
  generalize g7e : cpI h6 (u_ + 4) (b_ + 4) ((0 : Int32)).toNatClampNeg ((0 : Int32)).toNatClampNeg ((5 : Int32)).toNatClampNeg = h7
  have g7e : cpI h6 (u_ + 4) (b_ + 4) 0 0 5 = h7 := g7e
  have t7 : agX (fun j_ => b_ ≤ j_ ∧ j_ ≤ b_ + 11) h6 h7 := by rw [← g7e]; exact agX_cpI (by omega)
  have w7_ := w6_.tr t7
  rw [ckO_of su ((w7_.kd _).trans u0), ckO_of sb_ ((w7_.kd _).trans b0), (hA h7 (u_ + 5) 20 _ (us 5 (by omega)) ((w7_.kd _).trans u5)).1, (hA h7 (b_ + 5) 20 _ (bs 5 (by omega)) ((w7_.kd _).trans b5)).1, (hA h7 (u_ + 5) 20 none (us 5 (by omega)) ((w7_.kd _).trans u5)).2, (hA h7 (b_ + 5) 20 none (bs 5 (by omega)) ((w7_.kd _).trans b5)).2, show ∀ y_ : Option (hp × Unit), ckC (0 : Int32) (0 : Int32) (20 : Int32) 20 20 y_ = y_ from fun y_ => ckC_of (p_ := 0) (q_ := 0) (n_ := 20) (by decide) (by decide) (by decide), nm_eq]
  generalize g8e : cpI h7 (u_ + 5) (b_ + 5) ((0 : Int32)).toNatClampNeg ((0 : Int32)).toNatClampNeg ((20 : Int32)).toNatClampNeg = h8
  have g8e : cpI h7 (u_ + 5) (b_ + 5) 0 0 20 = h8 := g8e
  have t8 : agX (fun j_ => b_ ≤ j_ ∧ j_ ≤ b_ + 11) h7 h8 := by rw [← g8e]; exact agX_cpI (by omega)
  have w8 := w7_.tr t8
  rw [ckO_of su ((w8.kd _).trans u0), ckO_of sb_ ((w8.kd _).trans b0), nm_eq]
  generalize g9e : sI h8 b_ 5 (hI h8 u_ 5) = h9
  have t9 : agX (fun j_ => b_ ≤ j_ ∧ j_ ≤ b_ + 11) h8 h9 := by rw [← g9e]; exact agX_sI (by omega)
  have w9 := w8.tr t9
  have ew : hR h9 u_ 9 = hR h_ u_ 9 := by rw [(w9.2 u_ (by omega)).2.1]
  have cV : ∀ y_ : Option (hp × Unit), ckV h9 (hR h9 u_ 9) y_ = y_ := fun y_ => by
    rw [ew]
    have q7_ := q7_
    cases hC : sC σ with
    | none => rw [hC] at q7_; rw [show hR h_ u_ 9 = none from q7_]; rfl
    | some C_ =>
      rw [hC] at q7_
      obtain ⟨w_, hw, hwd⟩ := q7_
      rw [hw]
      exact ckV_of hwd.1.1 (by rw [w9.kd, hwd.1.2.1]; decide)
  rw [ckO_of su ((w9.kd _).trans u0), ckO_of sb_ ((w9.kd _).trans b0), cV, nm_eq, ew]
  have t10 : agX (fun j_ => b_ ≤ j_ ∧ j_ ≤ b_ + 11) h9 (sR h9 b_ 9 (hR h_ u_ 9)) := agX_sR (by omega)
  have w10_ := w9.tr t10
  -- what stands in the rows_ then
  have f9_ : ∀ a_, b_ ≤ a_ → a_ ≤ b_ + 11 → a_ ≠ b_ → a_ ≠ b_ + 4 → a_ ≠ b_ + 5 → hI (sR h9 b_ 9 (hR h_ u_ 9)) a_ = hI h5 a_ ∧ aI (sR h9 b_ 9 (hR h_ u_ 9)) a_ = aI h5 a_ ∧ aR (sR h9 b_ 9 (hR h_ u_ 9)) a_ = aR h5 a_ := by
    intro a_ a1_ a2 a3 a4 a5
    refine ⟨?_, ?_, ?_⟩
    · funext k_
      rw [hI_sR, ← g9e, hI_sI, if_neg (by omega), ← g8e, ← g7e, ← g6e]
      show hI (sI h5 b_ 2 (hI h5 u_ 2)) a_ k_ = _
      rw [hI_sI, if_neg (by omega)]
    · funext k_
      rw [aI_sR, ← g9e, aI_sI, ← g8e]
      show (if a_ = b_ + 5 then _ else aI h7 a_ k_) = _
      rw [if_neg a5, ← g7e]
      show (if a_ = b_ + 4 then _ else aI h6 a_ k_) = _
      rw [if_neg a4, ← g6e, aI_sI]
    · funext k_
      rw [aR_sR, ← g9e, aR_sI, ← g8e, ← g7e, ← g6e]
      show aR (sI h5 b_ 2 (hI h5 u_ 2)) a_ k_ = _
      rw [aR_sI]
  have f5_ : ∀ a_, a_ ≠ b_ + 3 → hI h5 a_ = hI h4 a_ ∧ aI h5 a_ = aI h4 a_ := fun a_ ha_ => ⟨(s1_.2 a_ ha_).1, (s1_.2 a_ ha_).2.2.1⟩
  have i2_ : hI (sR h9 b_ 9 (hR h_ u_ 9)) b_ 2 = hI h_ u_ 2 := by
    rw [hI_sR, ← g9e, hI_sI, if_neg (by rintro ⟨-, hh⟩; exact absurd hh (by decide)), ← g8e, ← g7e, ← g6e]
    show hI (sI h5 b_ 2 (hI h5 u_ 2)) b_ 2 = _
    rw [hI_sI, if_pos ⟨rfl, rfl⟩, (w5.2 u_ (by omega)).1]
  have i5_ : hI (sR h9 b_ 9 (hR h_ u_ 9)) b_ 5 = hI h_ u_ 5 := by
    rw [hI_sR, ← g9e, hI_sI, if_pos ⟨rfl, rfl⟩, (w8.2 u_ (by omega)).1]
  refine ⟨_, rfl, w10_, ⟨?_, ⟨i2_.trans q2_.1, fun p_ hp => ?_, fun p_ hp => ?_, fun j_ hj => ?_⟩, i5_.trans q3_, ?_, ?_, ?_, ?_⟩, fun p_ h1 h2 => ?_, ?_⟩
  · obtain ⟨e1_, -, -⟩ := f9_ (b_ + 1) (by omega) (by omega) (by omega) (by omega) (by omega)
    obtain ⟨-, e2_, -⟩ := f9_ (b_ + 2) (by omega) (by omega) (by omega) (by omega) (by omega)
    rw [e1_, e2_, (f5_ _ (by omega)).1, (f5_ _ (by omega)).2, (v2.2 (b_ + 1) (by omega)).1, (v2.2 (b_ + 2) (by omega)).2.2.1, (z2.2 (b_ + 1) (by omega)).1, (z2.2 (b_ + 2) (by omega)).2.2.1, (y2.2 (b_ + 1) (by omega)).1, (y2.2 (b_ + 2) (by omega)).2.2.1]
    exact ⟨x3, fun k_ hk => (x4_ k_ hk).trans (q1_.2 k_ hk)⟩
  · obtain ⟨-, -, e3_⟩ := f9_ (b_ + 3) (by omega) (by omega) (by omega) (by omega) (by omega)
    obtain ⟨o, ho, hs⟩ := q2_.2.1 p_ hp
    have hp5 := hok.2.1.1
    have o100 := hs.2.1
    refine ⟨o, ?_, sndX_ag' ⟨w10_.kd o, (w10_.2 o (by omega)).1⟩ hs⟩
    rw [e3_, s2_ p_ (by omega), (w4_.2 (u_ + 3) (by omega)).2.2.2.2]; exact ho
  · show aI (sR h9 b_ 9 (hR h_ u_ 9)) (b_ + 4) p_ = _
    rw [aI_sR, ← g9e, aI_sI, ← g8e]
    show (if b_ + 4 = b_ + 5 then _ else aI h7 (b_ + 4) p_) = _
    rw [if_neg (by omega), ← g7e, cpI_at hp, (w6_.2 (u_ + 4) (by omega)).2.2.1]
    exact q2_.2.2.1 p_ hp
  · show aI (sR h9 b_ 9 (hR h_ u_ 9)) (b_ + 5) j_ = _
    rw [aI_sR, ← g9e, aI_sI, ← g8e, cpI_at hj, (w7_.2 (u_ + 5) (by omega)).2.2.1]
    exact q2_.2.2.2 j_ hj
  · obtain ⟨e1_, -, -⟩ := f9_ (b_ + 6) (by omega) (by omega) (by omega) (by omega) (by omega)
    obtain ⟨-, e2_, -⟩ := f9_ (b_ + 7) (by omega) (by omega) (by omega) (by omega) (by omega)
    rw [e1_, e2_, (f5_ _ (by omega)).1, (f5_ _ (by omega)).2, (v2.2 (b_ + 6) (by omega)).1, (v2.2 (b_ + 7) (by omega)).2.2.1, (z2.2 (b_ + 6) (by omega)).1, (z2.2 (b_ + 7) (by omega)).2.2.1]
    exact ⟨y3, fun k_ hk => (y4 k_ hk).trans (by rw [(w1_.2 (u_ + 6 + 1) (by omega)).2.2.1]; exact q4_.2 k_ hk)⟩
  · obtain ⟨e1_, -, -⟩ := f9_ (b_ + 8) (by omega) (by omega) (by omega) (by omega) (by omega)
    obtain ⟨-, e2_, -⟩ := f9_ (b_ + 9) (by omega) (by omega) (by omega) (by omega) (by omega)
    rw [e1_, e2_, (f5_ _ (by omega)).1, (f5_ _ (by omega)).2, (v2.2 (b_ + 8) (by omega)).1, (v2.2 (b_ + 9) (by omega)).2.2.1]
    exact ⟨z3, fun k_ hk => (z4 k_ hk).trans (by rw [(w2_.2 (u_ + 8 + 1) (by omega)).2.2.1]; exact q5_.2 k_ hk)⟩
  · obtain ⟨e1_, -, -⟩ := f9_ (b_ + 10) (by omega) (by omega) (by omega) (by omega) (by omega)
    obtain ⟨-, e2_, -⟩ := f9_ (b_ + 11) (by omega) (by omega) (by omega) (by omega) (by omega)
    rw [e1_, e2_, (f5_ _ (by omega)).1, (f5_ _ (by omega)).2]
    exact ⟨v3, fun k_ hk => (v4_ k_ hk).trans (by rw [(w3_.2 (u_ + 10 + 1) (by omega)).2.2.1]; exact q6_.2 k_ hk)⟩
  · show wardX (sR h9 b_ 9 (hR h_ u_ 9)) b_ σ
    unfold wardX
    cases hC : sC σ with
    | none =>
      rw [hC] at q7_
      rw [hR_sR, if_pos ⟨rfl, rfl⟩]; exact q7_
    | some C_ =>
      rw [hC] at q7_
      obtain ⟨w_, hw, hwd⟩ := q7_
      have hn := wd_num hwd.1
      refine ⟨w_, by rw [hR_sR, if_pos ⟨rfl, rfl⟩]; exact hw, wdX_ag' (fun j_ hj => ?_) hwd⟩
      exact ⟨w10_.kd j_, (w10_.2 j_ (by omega)).1, (w10_.2 j_ (by omega)).2.2.1⟩
  · obtain ⟨-, -, e3_⟩ := f9_ (b_ + 3) (by omega) (by omega) (by omega) (by omega) (by omega)
    rw [e3_, s2_ p_ h2, (w4_.2 (u_ + 3) (by omega)).2.2.2.2]; exact hnl p_ h1 h2
  · rw [hR_sR, if_pos ⟨rfl, rfl⟩]
