-- ===== calls: can_, when, odds, mean, ends_ =====
theorem M_can_lp {hm0 : hp} {S_ : sst} (hM0 : RM hm0 S_) (hok : SOK S_) {p_ : Nat} {what : Int32} (hp : p_ < sp S_.1) : ∀ j_ n_ hm_ x_, scrM (tI hm0 55 p_ x_) hm_ → j_ ≤ 10 → j_ < n_ → ∃ hm', f_X12_can_38 n_ hm_ (nI p_) what (nI (sV S_.1 p_)) (nI (cntQ (fun v_ => fitA S_.1 p_ v_ (sH S_.1)) j_ (10 - j_))) (rdI (fstQ (fun v_ => fitA S_.1 p_ v_ (sH S_.1)) j_ (10 - j_))) (nI j_ - 1) = some (hm', if what = 0 then nI (cntQ (fun v_ => fitA S_.1 p_ v_ (sH S_.1)) 0 10) else rdI (fstQ (fun v_ => fitA S_.1 p_ v_ (sH S_.1)) 0 10)) ∧ scrM hm0 hm' := by
  have hp5 := hok.1.1.2.1.1
  have hin : vp_in (nI p_) 5 := vp_in_nI (by omega) (by decide)
  have b0 : aI hm0 55 p_ = nI (sV S_.1 p_) := (hM0.1.2.1.2 p_ hp).2.1
  intro j_
  induction j_ with
  | zero =>
    intro n_ hm_ x_ sm_ h1 h2
    obtain ⟨n_, rfl⟩ : ∃ z_, n_ = z_ + 1 := ⟨n_ - 1, by omega⟩
    refine ⟨tI hm_ 55 p_ (nI (sV S_.1 p_)), ?_, scrM_bk5 b0 sm_⟩
    unfold f_X12_can_38 f_X12_can_93
    rw [if_pos (show nI 0 - 1 < 0 by decide), chk_of hin, nm_eq, nI_clamp (n := p_) (by omega)]
    split <;> rfl
  | succ j_ ih_ =>
    intro n_ hm_ x_ sm_ h1 h2
    obtain ⟨n_, rfl⟩ : ∃ z_, n_ = z_ + 1 := ⟨n_ - 1, by omega⟩
    have sm2 := scrM_tI5 (b_ := nI j_) sm_
    have hM2 : scM1 (tI hm_ 55 p_ (nI j_)) (setV S_.1 p_ j_) := scM1_scr sm2 (scM1_v hM0.1)
    obtain ⟨hm', y1, y2⟩ := M_fits hM2 (scOK_v hok.1.1 (by omega)) hp
    have y1 : f_X12_isSeen (tI hm_ 55 p_ (nI j_)) (nI p_) = some (hm', b01 (fitA (setV S_.1 p_ j_) p_ (if p_ = p_ then j_ else sV S_.1 p_) (sH S_.1))) := y1
    rw [if_pos rfl, show fitA (setV S_.1 p_ j_) p_ j_ (sH S_.1) = fitA S_.1 p_ j_ (sH S_.1) from fitQ_V _ _] at y1
    have ih2 := ih_ n_ hm' (nI j_) (sm2.tr y2) (by omega) (by omega)
    rw [show 10 - j_ = (10 - (j_ + 1)) + 1 by omega, cntQ_s, fstQ_s] at ih2
    rw [f_X12_can_38, nI_pred, if_neg (nI_pos (by omega)), chk_of hin, nm_eq, nI_clamp (n := p_) (by omega), bnd_of y1]
    unfold f_X12_can_69
    cases hq : fitA S_.1 p_ j_ (sH S_.1) with
    | true =>
      rw [if_pos hq, if_pos hq, Nat.add_comm 1] at ih2
      rw [if_neg (show ¬ b01 true = 0 by decide), nm_eq, nm_eq, nI_1, m1_sub, ← rdI_s j_]
      exact ih2
    | false =>
      have hq2 : ¬ fitA S_.1 p_ j_ (sH S_.1) = true := by rw [hq]; decide
      rw [if_neg hq2, if_neg hq2, Nat.zero_add] at ih2
      rw [if_pos (show b01 false = 0 from rfl), nm_eq, m1_sub]
      exact ih2
theorem M_when_lp {hm0 : hp} {S_ : sst} (hM0 : RM hm0 S_) (hok : SOK S_) {p_ : Nat} {what : Int32} (hp : p_ < sp S_.1) : ∀ j_ n_ hm_ x_, scrM (sI hm0 52 2 x_) hm_ → j_ ≤ 24 → j_ < n_ → ∃ hm', f_X12_when_36 n_ hm_ (nI p_) what (nI (sH S_.1)) (nI (cntQ (fun k_ => fitA S_.1 p_ (sV S_.1 p_) (sH S_.1 + k_)) j_ (24 - j_))) (rdI (fstQ (fun k_ => fitA S_.1 p_ (sV S_.1 p_) (sH S_.1 + k_)) j_ (24 - j_))) (nI j_ - 1) = some (hm', if what = 0 then nI (cntQ (fun k_ => fitA S_.1 p_ (sV S_.1 p_) (sH S_.1 + k_)) 0 24) else rdI (fstQ (fun k_ => fitA S_.1 p_ (sV S_.1 p_) (sH S_.1 + k_)) 0 24)) ∧ scrM hm0 hm' := by
  have hH := hok.1.2
  have b0 : hI hm0 52 2 = nI (sH S_.1) := hM0.1.2.2.1
  intro j_
  induction j_ with
  | zero =>
    intro n_ hm_ x_ sm_ h1 h2
    obtain ⟨n_, rfl⟩ : ∃ z_, n_ = z_ + 1 := ⟨n_ - 1, by omega⟩
    refine ⟨sI hm_ 52 2 (nI (sH S_.1)), ?_, scrM_bk b0 sm_⟩
    unfold f_X12_when_36 f_X12_when_89
    rw [if_pos (show nI 0 - 1 < 0 by decide), nm_eq]
    split <;> rfl
  | succ j_ ih_ =>
    intro n_ hm_ x_ sm_ h1 h2
    obtain ⟨n_, rfl⟩ : ∃ z_, n_ = z_ + 1 := ⟨n_ - 1, by omega⟩
    have sm2 := scrM_sI2 (b_ := nI (sH S_.1 + j_)) sm_
    have hM2 : scM1 (sI hm_ 52 2 (nI (sH S_.1 + j_))) (setH S_.1 (sH S_.1 + j_)) := scM1_scr sm2 (scM1_hr hM0.1)
    obtain ⟨hm', y1, y2⟩ := M_fits hM2 (scOK_hr hok.1.1 (by omega)) hp
    have y1 : f_X12_isSeen (sI hm_ 52 2 (nI (sH S_.1 + j_))) (nI p_) = some (hm', b01 (fitA (setH S_.1 (sH S_.1 + j_)) p_ (sV S_.1 p_) (sH S_.1 + j_))) := y1
    rw [show fitA (setH S_.1 (sH S_.1 + j_)) p_ (sV S_.1 p_) (sH S_.1 + j_) = fitA S_.1 p_ (sV S_.1 p_) (sH S_.1 + j_) from fitQ_H _ _] at y1
    have ih2 := ih_ n_ hm' _ (sm2.tr y2) (by omega) (by omega)
    rw [show 24 - j_ = (24 - (j_ + 1)) + 1 by omega, cntQ_s, fstQ_s] at ih2
    rw [f_X12_when_36, nI_pred, if_neg (nI_pos (by omega)), nI_add, nm_eq, bnd_of y1]
    unfold f_X12_when_67
    cases hq : fitA S_.1 p_ (sV S_.1 p_) (sH S_.1 + j_) with
    | true =>
      rw [if_pos hq, if_pos hq, Nat.add_comm 1] at ih2
      rw [if_neg (show ¬ b01 true = 0 by decide), nm_eq, nm_eq, nI_1, m1_sub, ← rdI_s j_]
      exact ih2
    | false =>
      have hq2 : ¬ fitA S_.1 p_ (sV S_.1 p_) (sH S_.1 + j_) = true := by rw [hq]; decide
      rw [if_neg hq2, if_neg hq2, Nat.zero_add] at ih2
      rw [if_pos (show b01 false = 0 from rfl), nm_eq, m1_sub]
      exact ih2
theorem scrM_self5 {h_ : hp} {p_ : Nat} {b_ : Int32} (hb_ : aI h_ 55 p_ = b_) : scrM (tI h_ 55 p_ b_) h_ := by
  refine ⟨rfl, rfl, fun i_ _ _ _ _ => ?_, fun _ _ => rfl, rfl⟩
  funext k_
  rw [aI_tI]
  split
  · rename_i hc_
    rw [hc_.1, hc_.2]; exact hb_
  · rfl
theorem s_can {hx hm_ : hp} (H_ : Sim hx hm_) (a_ c_ : Int32) : ∃ hx' hm' r_, f_X11_can hx a_ c_ = some (hx', r_) ∧ f_X12_can hm_ a_ c_ = some (hm', r_) ∧ Sim hx' hm' := by
  have H0 := H_
  obtain ⟨S_, hX, hM_, hok, ht⟩ := H_
  have e0_ : hI hm_ 52 1 = nI (sp S_.1) := hM_.1.2.1.1
  have hp5 := hok.1.1.2.1.1
  unfold f_X11_can f_X12_can f_X11_can_15 f_X12_can_18
  rw [bnr_of (X_isSender hX.1.1 hok.1.1), bnr_of (M_isSender e0_ (by omega)), bnr_of X_isPart, bnr_of (M_in0 (n := 2) (by decide) (by decide))]
  rcases arg_split a_ (sp S_.1) (by omega) with ⟨p_, hp, rfl⟩ | hx0
  · rw [if_neg (arg_no hp (by omega)), if_neg ne10, if_neg ne10]
    rcases arg_split c_ 2 (by decide) with ⟨z_, hz, rfl⟩ | hx2
    · have b0 : aI hm_ 55 p_ = nI (sV S_.1 p_) := (hM_.1.2.1.2 p_ hp).2.1
      rw [if_neg (arg_no hz (by decide)), if_neg ne10, if_neg ne10, chk_of (vp_in_nI (n := p_) (N := 5) (by omega) (by decide)), nm_eq, nI_clamp (n := p_) (by omega), b0]
      obtain ⟨hx', y1, y2⟩ := X_can_lp (what := nI z_) hX hok hp 10 0 2000 hx 0 0 scrX.rf rfl (by decide) (Nat.le_refl _) (Nat.le_refl _)
      obtain ⟨hm', z1, z2⟩ := M_can_lp (what := nI z_) hM_ hok hp 10 2000 hm_ _ (scrM_self5 b0) (Nat.le_refl _) (by decide)
      rw [upG_all] at y1
      exact ⟨hx', hm', _, y1, z1, Sim_scr y2 z2 H0⟩
    · rw [if_pos hx2, if_pos rfl, if_pos rfl]
      exact ⟨hx, hm_, _, rfl, rfl, H0⟩
  · rw [if_pos hx0, if_pos rfl, if_pos rfl]
    exact ⟨hx, hm_, _, rfl, rfl, H0⟩
theorem s_when {hx hm_ : hp} (H_ : Sim hx hm_) (a_ c_ : Int32) : ∃ hx' hm' r_, f_X11_when hx a_ c_ = some (hx', r_) ∧ f_X12_when hm_ a_ c_ = some (hm', r_) ∧ Sim hx' hm' := by
  have H0 := H_
  obtain ⟨S_, hX, hM_, hok, ht⟩ := H_
  have e0_ : hI hm_ 52 1 = nI (sp S_.1) := hM_.1.2.1.1
  have hp5 := hok.1.1.2.1.1
  unfold f_X11_when f_X12_when f_X11_when_15 f_X12_when_18
  rw [bnr_of (X_isSender hX.1.1 hok.1.1), bnr_of (M_isSender e0_ (by omega)), bnr_of X_isPart, bnr_of (M_in0 (n := 2) (by decide) (by decide))]
  rcases arg_split a_ (sp S_.1) (by omega) with ⟨p_, hp, rfl⟩ | hx0
  · rw [if_neg (arg_no hp (by omega)), if_neg ne10, if_neg ne10]
    rcases arg_split c_ 2 (by decide) with ⟨z_, hz, rfl⟩ | hx2
    · have b0 : hI hm_ 52 2 = nI (sH S_.1) := hM_.1.2.2.1
      rw [if_neg (arg_no hz (by decide)), if_neg ne10, if_neg ne10, nm_eq, b0]
      obtain ⟨hx', y1, y2⟩ := X_when_lp (what := nI z_) hX hok hp 24 0 2000 hx 0 0 scrX.rf rfl (by decide) (Nat.le_refl _) (Nat.le_refl _)
      obtain ⟨hm', z1, z2⟩ := M_when_lp (what := nI z_) hM_ hok hp 24 2000 hm_ _ (scrM_self b0) (Nat.le_refl _) (by decide)
      rw [upG_all] at y1
      exact ⟨hx', hm', _, y1, z1, Sim_scr y2 z2 H0⟩
    · rw [if_pos hx2, if_pos rfl, if_pos rfl]
      exact ⟨hx, hm_, _, rfl, rfl, H0⟩
  · rw [if_pos hx0, if_pos rfl, if_pos rfl]
    exact ⟨hx, hm_, _, rfl, rfl, H0⟩
-- fractions in lowest terms
theorem X_low_h (h_ h' : hp) : ∀ n_ a_ b_ c_ d_ e_, f_X11_lowest_5 h_ n_ a_ b_ c_ d_ e_ = f_X11_lowest_5 h' n_ a_ b_ c_ d_ e_ := by
  intro n_
  induction n_ with
  | zero => intros; rfl
  | succ n_ ih_ =>
    intro a_ b_ c_ d_ e_
    have e1_ : ∀ x_ y_, f_X11_lowest_43 h_ x_ y_ = f_X11_lowest_43 h' x_ y_ := fun _ _ => rfl
    have e2_ : f_X11_lowest_28 h_ (f_X11_lowest_5 h_ n_) = f_X11_lowest_28 h' (f_X11_lowest_5 h' n_) := by
      funext x_ y_ z_ u_ v_
      simp only [f_X11_lowest_28, nm_eq, ih_]
    simp only [f_X11_lowest_5, e1_, e2_]
theorem M_div_h (h_ h' : hp) : ∀ n_ a_ b_, f_X12_divisor_5 h_ n_ a_ b_ = f_X12_divisor_5 h' n_ a_ b_ := by
  intro n_
  induction n_ with
  | zero => intros; rfl
  | succ n_ ih_ => intro a_ b_; simp only [f_X12_divisor_5, nm_eq, ih_]
theorem M_low_h (h_ h' : hp) (a_ b_ c_ : Int32) : f_X12_lowest h_ a_ b_ c_ = f_X12_lowest h' a_ b_ c_ := by
  have e1_ : f_X12_divisor h_ a_ b_ = f_X12_divisor h' a_ b_ := M_div_h h_ h' _ _ _
  have e2_ : ∀ x_, f_X12_lowest_25 h_ x_ = f_X12_lowest_25 h' x_ := fun _ => rfl
  unfold f_X12_lowest
  simp only [e1_, e2_]
theorem low_tab : ∀ b_, b_ < 11 → 0 < b_ → ∀ a_, a_ < 81 → ∀ c_, c_ < 2 → f_X11_lowest hp0 (nI a_) (nI b_) (nI c_) = f_X12_lowest hp0 (nI a_) (nI b_) (nI c_) ∧ (f_X12_lowest hp0 (nI a_) (nI b_) (nI c_)).isSome = true := by decide +kernel
theorem low_eq {hx hm_ : hp} {a_ b_ c_ : Nat} (ha_ : a_ < 81) (hb_ : b_ < 11) (hb0 : 0 < b_) (hc_ : c_ < 2) : ∃ r_, f_X11_lowest hx (nI a_) (nI b_) (nI c_) = some r_ ∧ f_X12_lowest hm_ (nI a_) (nI b_) (nI c_) = some r_ := by
  obtain ⟨h1, h2⟩ := low_tab b_ hb_ hb0 a_ ha_ c_ hc_
  obtain ⟨r_, hr⟩ := Option.isSome_iff_exists.mp h2
  refine ⟨r_, ?_, ?_⟩
  · rw [← hr, ← h1]; exact X_low_h _ _ _ _ _ _ _ _
  · rw [← hr]; exact M_low_h _ _ _ _ _
theorem odds_lp {hx hm_ : hp} {S_ : sst} (hX : RX hx S_) (hM_ : RM hm_ S_) (hok : SOK S_) {w_ v_ z_ : Nat} (hv : v_ < 1024) (hz : z_ < 2) : ∀ m_ k_ n_ c_, k_ + m_ = 10 → m_ < n_ → c_ ≤ k_ → ∃ r_, f_X11_odds_51 n_ hx (nI w_) (nI z_) (nI v_) (nI c_) (nI k_) = some (hx, r_) ∧ f_X12_odds_49 n_ hm_ (nI w_) (nI z_) (nI v_) (nI c_) (nI k_) = some (hm_, r_) := by
  intro m_
  induction m_ with
  | zero =>
    intro k_ n_ c_ h1 h2 hc_
    obtain ⟨n_, rfl⟩ : ∃ j_, n_ = j_ + 1 := ⟨n_ - 1, by omega⟩
    have e_ : ¬ nI k_ < (10 : Int32) := nI_nlt (b := 10) (by omega) (by omega)
    obtain ⟨r_, r1_, r2⟩ := low_eq (hx := hx) (hm_ := hm_) (a_ := c_) (b_ := 10) (c_ := z_) (by omega) (by omega) (by omega) hz
    rw [f_X11_odds_51, f_X12_odds_49, if_neg e_, if_neg e_, bnr_of (show f_X11_lowest hx (nI c_) (10 : Int32) (nI z_) = some r_ from r1_), bnr_of (show f_X12_lowest hm_ (nI c_) (10 : Int32) (nI z_) = some r_ from r2)]
    exact ⟨r_, rfl, rfl⟩
  | succ m_ ih_ =>
    intro k_ n_ c_ h1 h2 hc_
    obtain ⟨n_, rfl⟩ : ∃ j_, n_ = j_ + 1 := ⟨n_ - 1, by omega⟩
    have e_ : nI k_ < (10 : Int32) := nI_lt (b := 10) (by omega) (by decide)
    have hk2 : 2 ^ k_ < 1024 := by
      have : 2 ^ k_ ≤ 2 ^ 9 := Nat.pow_le_pow_right (by decide) (by omega)
      omega
    have hx2 := xor_lt hv hk2
    rw [f_X11_odds_51, f_X12_odds_49, if_pos e_, if_pos e_, one_shl k_ (by omega), nI_xor, bnr_of (X_readAs hX.1.1 hok.1.1 hx2), bnr_of (M_readOf hM_.1 hok.1.1 hx2)]
    unfold f_X11_odds_76 f_X12_odds_78
    by_cases hq : rdI (readS S_.1 (v_ ^^^ 2 ^ k_)) = nI w_
    · rw [if_pos hq, if_pos hq, nm_eq, nm_eq, nm_eq, nm_eq, nI_1, nI_1]
      exact ih_ (k_ + 1) n_ (c_ + 1) (by omega) (by omega) (by omega)
    · rw [if_neg hq, if_neg hq, nm_eq, nm_eq, nm_eq, show nI c_ + (0 : Int32) = nI c_ from by rw [show (0 : Int32) = nI 0 from rfl, nI_add]; rfl, nI_1]
      exact ih_ (k_ + 1) n_ c_ (by omega) (by omega) (by omega)
theorem s_odds {hx hm_ : hp} (H_ : Sim hx hm_) (a_ b_ c_ : Int32) : ∃ hx' hm' r_, f_X11_odds hx a_ b_ c_ = some (hx', r_) ∧ f_X12_odds hm_ a_ b_ c_ = some (hm', r_) ∧ Sim hx' hm' := by
  have H0 := H_
  obtain ⟨S_, hX, hM_, hok, ht⟩ := H_
  have e0_ : hI hm_ 52 1 = nI (sp S_.1) := hM_.1.2.1.1
  have e1_ : hI hm_ 52 0 = nI (sn S_.1) := hM_.1.1.1
  have hp5 := hok.1.1.2.1.1
  have hn8 := hok.1.1.1.1
  unfold f_X11_odds f_X12_odds f_X11_odds_23 f_X12_odds_26
  rw [bnr_of (X_isSender hX.1.1 hok.1.1), bnr_of (M_isSender e0_ (by omega)), bnr_of (X_isWord hX.1.1 hok.1.1), bnr_of (M_isWord e1_ (by omega)), bnr_of X_isPart, bnr_of (M_in0 (n := 2) (by decide) (by decide))]
  rcases arg_split a_ (sp S_.1) (by omega) with ⟨p_, hp, rfl⟩ | hx0
  · rw [if_neg (arg_no hp (by omega)), if_neg ne10, if_neg ne10]
    rcases arg_split b_ (sn S_.1) (by omega) with ⟨w_, hw, rfl⟩ | hx1
    · rw [if_neg (arg_no hw (by omega)), if_neg ne10, if_neg ne10]
      rcases arg_split c_ 2 (by decide) with ⟨z_, hz, rfl⟩ | hx2
      · obtain ⟨hx', hm', v_, hv, y1, z1, y2, z2, -⟩ := XM_show hX hM_ hok hp (hok.1.1.1.2 w_ hw)
        rw [if_neg (arg_no hz (by decide)), if_neg ne10, if_neg ne10, bnr_of (X_get hX.1.1 hok.1.1 hw), bnd_of y1, chk_of (vp_in_nI (n := w_) (N := 8) (by omega) (by decide)), nI_clamp (n := w_) (by omega), show aI hm_ 53 w_ = nI (sW S_.1 w_) from hM_.1.1.2 w_ hw, bnd_of z1]
        obtain ⟨r_, r1_, r2⟩ := odds_lp (RX_scr y2 hX) (RM_scr z2 hM_) hok (w_ := w_) hv hz 10 0 2000 0 rfl (by decide) (Nat.le_refl _)
        exact ⟨hx', hm', r_, r1_, r2, Sim_scr y2 z2 H0⟩
      · rw [if_pos hx2, if_pos rfl, if_pos rfl]
        exact ⟨hx, hm_, _, rfl, rfl, H0⟩
    · rw [if_pos hx1, if_pos rfl, if_pos rfl]
      exact ⟨hx, hm_, _, rfl, rfl, H0⟩
  · rw [if_pos hx0, if_pos rfl, if_pos rfl]
    exact ⟨hx, hm_, _, rfl, rfl, H0⟩
theorem s_mean {hx hm_ : hp} (H_ : Sim hx hm_) (a_ : Int32) : ∃ r_, f_X11_mean hx a_ = some r_ ∧ f_X12_mean hm_ a_ = some r_ := by
  obtain ⟨S_, hX, hM_, hok, ht⟩ := H_
  have e1_ : hI hm_ 52 0 = nI (sn S_.1) := hM_.1.1.1
  have e2_ : hI hx 2 1 = nI (sn S_.1) := hX.1.1.1.1
  have hn8 := hok.1.1.1.1
  unfold f_X11_mean f_X12_mean f_X11_mean_20 f_X12_mean_17
  rw [bnr_of X_isPart, bnr_of (M_in0 (n := 2) (by decide) (by decide)), e1_, e2_]
  rcases arg_split a_ 2 (by decide) with ⟨z_, hz, rfl⟩ | hx0
  · rw [if_neg (arg_no hz (by decide)), if_neg ne10, if_neg ne10]
    by_cases h0 : sn S_.1 = 0
    · have e3_ : nI (sn S_.1) = 0 := by rw [h0]; rfl
      rw [if_pos e3_, if_pos e3_]
      exact ⟨_, rfl, rfl⟩
    · have e3_ : ¬ nI (sn S_.1) = 0 := nI_ne0 (by omega) (by omega)
      rw [if_neg e3_, if_neg e3_]
      have go_ : ∀ m_ k_ n_ c_, k_ + m_ = sn S_.1 → m_ < n_ → c_ ≤ 10 * k_ → ∃ r_, f_X11_mean_28 hx n_ (nI z_) (nI c_) (nI k_) = some r_ ∧ f_X12_mean_25 hm_ n_ (nI z_) (nI c_) (nI k_) = some r_ := by
        intro m_
        induction m_ with
        | zero =>
          intro k_ n_ c_ h1 h2 hc_
          obtain ⟨n_, rfl⟩ : ∃ j_, n_ = j_ + 1 := ⟨n_ - 1, by omega⟩
          have e_ : ¬ nI k_ < nI (sn S_.1) := nI_nlt (by omega) (by omega)
          obtain ⟨r_, r1_, r2⟩ := low_eq (hx := hx) (hm_ := hm_) (a_ := c_) (b_ := sn S_.1) (c_ := z_) (by omega) (by omega) (by omega) hz
          rw [f_X11_mean_28, f_X12_mean_25, e1_, e2_, if_neg e_, if_neg e_, bnr_of r1_, bnr_of r2]
          exact ⟨r_, rfl, rfl⟩
        | succ m_ ih_ =>
          intro k_ n_ c_ h1 h2 hc_
          obtain ⟨n_, rfl⟩ : ∃ j_, n_ = j_ + 1 := ⟨n_ - 1, by omega⟩
          have hk : k_ < sn S_.1 := by omega
          have e_ : nI k_ < nI (sn S_.1) := nI_lt hk (by omega)
          have hs := hok.1.1.1.2 k_ hk
          have hp := pop_le 10 (sW S_.1 k_)
          rw [f_X11_mean_28, f_X12_mean_25, e1_, e2_, if_pos e_, if_pos e_, bnr_of (X_get hX.1.1 hok.1.1 hk), bnr_of (X_bits hs), chk_of (vp_in_nI (n := k_) (N := 8) (by omega) (by decide)), nI_clamp (n := k_) (by omega), show aI hm_ 53 k_ = nI (sW S_.1 k_) from hM_.1.1.2 k_ hk, bnr_of (M_bits hs), nI_add, nI_1, nm_eq, nm_eq, nm_eq, nm_eq]
          exact ih_ (k_ + 1) n_ _ (by omega) (by omega) (by omega)
      exact go_ _ 0 2000 0 (Nat.zero_add _) (by omega) (Nat.le_refl _)
  · rw [if_pos hx0, if_pos rfl, if_pos rfl]
    exact ⟨_, rfl, rfl⟩
theorem ends_lp {hx0 hm0 : hp} {S_ : sst} (hX0 : RX hx0 S_) (hM0 : RM hm0 S_) (hok : SOK S_) {z_ : Int32} : ∀ m_ k_ n_ hx hm_ s_ t_, scrX hx0 hx → scrM (sI hm0 52 2 (nI t_)) hm_ → k_ + m_ = S_.1.2.2.2.2.1.1 → m_ < n_ → s_ < 1024 → t_ ≤ sH S_.1 + k_ → ∃ hx' hm' r_, f_X11_ends_41 n_ hx z_ (nI s_) (nI t_) (nI k_) = some (hx', r_) ∧ f_X12_ends_36 n_ hm_ z_ (nI (sH S_.1)) (nI s_) (nI k_) = some (hm', r_) ∧ scrX hx0 hx' ∧ scrM hm0 hm' := by
  have hl8 := hok.1.1.2.2.2.2.1.1
  have hp5 := hok.1.1.2.1.1
  have hH := hok.1.2
  have b0 : hI hm0 52 2 = nI (sH S_.1) := hM0.1.2.2.1
  intro m_
  induction m_ with
  | zero =>
    intro k_ n_ hx hm_ s_ t_ sx sm_ h1 h2 hs ht
    obtain ⟨n_, rfl⟩ : ∃ j_, n_ = j_ + 1 := ⟨n_ - 1, by omega⟩
    have hX := RX_scr sx hX0
    have e1_ : hI hx 9 1 = nI S_.1.2.2.2.2.1.1 := hX.1.1.2.2.2.2.1.1
    have e2_ : hI hm_ 52 32 = nI S_.1.2.2.2.2.1.1 := (scM1_scr sm_ (scM1_hr hM0.1)).2.2.2.2.1.1
    have e_ : ¬ nI k_ < nI S_.1.2.2.2.2.1.1 := nI_nlt (by omega) (by omega)
    have sm2 := scrM_bk b0 sm_
    have hM2 := RM_scr sm2 hM0
    unfold f_X11_ends_41 f_X12_ends_36 f_X11_ends_133 f_X12_ends_110
    rw [e1_, e2_, if_neg e_, if_neg e_, nm_eq, bnr_of (X_readAs hX.1.1 hok.1.1 hs), bnr_of (M_readOf hM2.1 hok.1.1 hs)]
    by_cases hz : z_ = 0
    · rw [if_pos hz, if_pos hz]
      exact ⟨hx, _, _, rfl, rfl, sx, sm2⟩
    · rw [if_neg hz, if_neg hz]
      exact ⟨hx, _, _, rfl, rfl, sx, sm2⟩
  | succ m_ ih_ =>
    intro k_ n_ hx hm_ s_ t_ sx sm_ h1 h2 hs ht
    obtain ⟨n_, rfl⟩ : ∃ j_, n_ = j_ + 1 := ⟨n_ - 1, by omega⟩
    have hX := RX_scr sx hX0
    have hM_ := scM1_scr sm_ (scM1_hr hM0.1)
    have hk : k_ < S_.1.2.2.2.2.1.1 := by omega
    have e1_ : hI hx 9 1 = nI S_.1.2.2.2.2.1.1 := hX.1.1.2.2.2.2.1.1
    have e2_ : hI hm_ 52 32 = nI S_.1.2.2.2.2.1.1 := hM_.2.2.2.2.1.1
    have e_ : nI k_ < nI S_.1.2.2.2.2.1.1 := nI_lt hk (by omega)
    have g1 : aI hx (9 + 1) k_ = nI (S_.1.2.2.2.2.1.2 k_) := hX.1.1.2.2.2.2.1.2 k_ hk
    have g2 : aI hm_ 73 k_ = nI (S_.1.2.2.2.2.1.2 k_) := hM_.2.2.2.2.1.2 k_ hk
    have ck : vp_in (nI k_) 8 := vp_in_nI (by omega) (by decide)
    have eh : hI hm_ 52 2 = nI t_ := by show hm_.1 52 2 = _; rw [sm_.1]; rfl
    rw [f_X11_ends_41, f_X12_ends_36, e1_, e2_, if_pos e_, if_pos e_, bnr_of (X2_get (rwX_relay hX.1.1 hok.1.1) hk), g1, chk_of ck, nI_clamp (n := k_) (by omega), g2, chk_of ck]
    unfold f_X11_ends_114 f_X12_ends_84
    rcases hok.1.1.2.2.2.2.1.2 k_ hk with hw | hw
    · have h5 : ¬ nI (S_.1.2.2.2.2.1.2 k_) = (5 : Int32) := fun zz => by have := (nI_eq (b := 5) (by omega) (by decide)).mp zz; omega
      obtain ⟨o, ho, hso⟩ := hX.1.1.2.1.2.1 _ hw
      have hS_ : kdOf hx o ∈ sndK := by rw [hso.2.2.1]; exact sndQ_in
      have hv := (hok.1.1.2.1.2 _ hw).2.1
      obtain ⟨hx', y1, y2⟩ := X_shown hX.1.1 hok.1.1 hw hv (t := t_) (by omega) hs
      obtain ⟨hm', z1, z2⟩ := M_showsOf hM_ (scOK_hr hok.1.1 (by omega)) hw hs
      have z1 : f_X12_showsOf hm_ (nI (S_.1.2.2.2.2.1.2 k_)) (nI s_) = some (hm', nI (showsS S_.1 (S_.1.2.2.2.2.1.2 k_) (sV S_.1 (S_.1.2.2.2.2.1.2 k_)) t_ s_)) := z1
      have hlt := showsS_lt (t := t_) hok.1.1 hw hv hs
      rw [if_neg h5, if_neg h5, bnr_of (X_isSender hX.1.1 hok.1.1), if_neg (arg_no hw (by omega)), if_neg ne10, chk_of (vp_in_nI (n := S_.1.2.2.2.2.1.2 k_) (N := 5) (by omega) (by decide)), nI_clamp (n := S_.1.2.2.2.2.1.2 k_) (by omega), onO_of (show aR hx 4 (S_.1.2.2.2.2.1.2 k_) = some o from ho), ckS_of hso.1 hS_, show hI hx o 2 = nI (sV S_.1 (S_.1.2.2.2.2.1.2 k_)) from hso.2.2.2.2.2, bnd_of y1, bnd_of z1, nm_eq, nm_eq, nI_1]
      exact ih_ (k_ + 1) n_ hx' hm' _ t_ (sx.tr y2) (sm_.tr z2) (by omega) (by omega) hlt (by omega)
    · have h5 : nI (S_.1.2.2.2.2.1.2 k_) = (5 : Int32) := by rw [hw]; rfl
      rw [if_pos h5, if_pos h5, eh, nI_1, nm_eq, nm_eq, nm_eq, nm_eq, nI_1]
      exact ih_ (k_ + 1) n_ hx _ s_ (t_ + 1) sx (scrM_sI2 (b_ := nI (t_ + 1)) sm_) (by omega) (by omega) hs (by omega)
theorem s_ends {hx hm_ : hp} (H_ : Sim hx hm_) (a_ c_ : Int32) : ∃ hx' hm' r_, f_X11_ends hx a_ c_ = some (hx', r_) ∧ f_X12_ends hm_ a_ c_ = some (hm', r_) ∧ Sim hx' hm' := by
  have H0 := H_
  obtain ⟨S_, hX, hM_, hok, ht⟩ := H_
  have e1_ : hI hm_ 52 0 = nI (sn S_.1) := hM_.1.1.1
  have b0 : hI hm_ 52 2 = nI (sH S_.1) := hM_.1.2.2.1
  have b1 : hI hx 1 5 = nI (sH S_.1) := hX.1.1.2.2.1
  have hn8 := hok.1.1.1.1
  have hl8 := hok.1.1.2.2.2.2.1.1
  unfold f_X11_ends f_X12_ends f_X11_ends_15 f_X12_ends_18
  rw [bnr_of (X_isWord hX.1.1 hok.1.1), bnr_of (M_isWord e1_ (by omega)), bnr_of X_isPart, bnr_of (M_in0 (n := 2) (by decide) (by decide))]
  rcases arg_split a_ (sn S_.1) (by omega) with ⟨w_, hw, rfl⟩ | hx0
  · rw [if_neg (arg_no hw (by omega)), if_neg ne10, if_neg ne10]
    rcases arg_split c_ 2 (by decide) with ⟨z_, hz, rfl⟩ | hx2
    · rw [if_neg (arg_no hz (by decide)), if_neg ne10, if_neg ne10, bnr_of (X_get hX.1.1 hok.1.1 hw), nm_eq, b1, nm_eq, b0, chk_of (vp_in_nI (n := w_) (N := 8) (by omega) (by decide)), nm_eq, nI_clamp (n := w_) (by omega), show aI hm_ 53 w_ = nI (sW S_.1 w_) from hM_.1.1.2 w_ hw]
      obtain ⟨hx', hm', r_, y1, y2, y3, y4⟩ := ends_lp hX hM_ hok (z_ := nI z_) _ 0 2000 hx hm_ (sW S_.1 w_) (sH S_.1) scrX.rf (scrM_self b0) (Nat.zero_add _) (by omega) (hok.1.1.1.2 w_ hw) (Nat.le_refl _)
      exact ⟨hx', hm', r_, y1, y2, Sim_scr y3 y4 H0⟩
    · rw [if_pos hx2, if_pos rfl, if_pos rfl]
      exact ⟨hx, hm_, _, rfl, rfl, H0⟩
  · rw [if_pos hx0, if_pos rfl, if_pos rfl]
    exact ⟨hx, hm_, _, rfl, rfl, H0⟩
