-- ===== call_: act =====
theorem X_setLen {h_ : hp} {n_ : Nat} (c1_ : hI h_ 33 1 = 0) (c3_ : hI h_ 33 3 = nI n_) (hn : n_ ≤ 16) : ∃ h', f_J4_setLength_d00df h_ 33 (0 : Int32) = some (h', ()) ∧ TRX h' [] ∧ agX (fun j_ => 33 ≤ j_ ∧ j_ ≤ 34) h_ h' := by
  have hA := fun (y_ : Option (hp × Unit)) => ckA_of (b := 1) (h := h_) (i := 33 + 1) (e := 1) (n := 16) (a := y_) rfl rfl (by decide)
  have ec : f_J5_ensureCapacityInternal_d00df h_ 33 (0 : Int32) = some (h_, ()) := by
    unfold f_J5_ensureCapacityInternal_d00df
    rw [ck33, (hA _).1, (hA none).2, ck33, c1_, nm_eq, if_neg (by decide)]; rfl
  unfold f_J4_setLength_d00df f_J5_setLength_d00df
  rw [ck33, if_neg (by decide), ck33, bnd_of ec, ck33, c3_, if_neg (show ¬ nI n_ < (0 : Int32) from nI_pos (by omega)), ck33]
  by_cases h0 : 0 < n_
  · rw [if_pos (show (0 : Int32) < nI n_ from nI_lt (a := 0) h0 (by omega)), ck33, nm_eq]
    unfold f_J5_setLength_d00df_76
    rw [ck33, nm_eq]
    refine ⟨_, rfl, ⟨?_, ?_, fun i_ b_ hb_ => by simp at hb_⟩, (agX_sI (by omega)).tr (agX_sI (by omega))⟩
    · rw [hI_sI, if_neg (by rintro ⟨-, hh⟩; exact absurd hh (by decide)), hI_sI, if_neg (by rintro ⟨-, hh⟩; exact absurd hh (by decide))]; exact c1_
    · rw [hI_sI, if_pos ⟨rfl, rfl⟩]; rfl
  · rw [if_neg (show ¬ (0 : Int32) < nI n_ from nI_nlt (a := 0) (by omega) (by omega))]
    unfold f_J5_setLength_d00df_76
    rw [ck33, nm_eq]
    refine ⟨_, rfl, ⟨?_, ?_, fun i_ b_ hb_ => by simp at hb_⟩, agX_sI (by omega)⟩
    · rw [hI_sI, if_neg (by rintro ⟨-, hh⟩; exact absurd hh (by decide))]; exact c1_
    · rw [hI_sI, if_pos ⟨rfl, rfl⟩]; rfl
theorem RM_agB {h_ h' : hp} {S_ : sst} {q_ : List Nat} (x_ : agB h_ h') (H_ : RM h_ S_) (ht : TRM h' q_) : RM h' (S_.1, S_.2.1, S_.2.2.1, S_.2.2.2.1, q_) := by
  obtain ⟨a1_, a2, a3, a4, a5, a6⟩ := H_
  have e_ := fun k_ (hk : k_ ≠ 55) => x_.2.2.1 52 k_ (fun hc_ => hk hc_.2)
  have f_ := x_.2.2.2
  refine ⟨?_, ?_, by rw [e_ 8 (by decide)]; exact a3, by rw [e_ 10 (by decide), f_ 58 (by decide)]; exact a4, by rw [f_ 66 (by decide)]; exact a5, ht⟩
  · unfold scM1 scM wdM at a1_ ⊢
    simp only [e_ 0 (by decide), e_ 1 (by decide), e_ 2 (by decide), e_ 29 (by decide), e_ 32 (by decide), e_ 33 (by decide), e_ 9 (by decide), e_ 8 (by decide), f_ 53 (by decide), f_ 54 (by decide), f_ 55 (by decide), f_ 56 (by decide), f_ 57 (by decide), f_ 59 (by decide), f_ 60 (by decide), f_ 61 (by decide), f_ 62 (by decide), f_ 63 (by decide), f_ 64 (by decide), f_ 71 (by decide), f_ 72 (by decide), f_ 73 (by decide), f_ 74 (by decide), f_ 75 (by decide)]
    exact a1_
  · unfold tkM scM2 scM wdM at a2 ⊢
    simp only [e_ 37 (by decide), e_ 39 (by decide), e_ 40 (by decide), e_ 41 (by decide), e_ 42 (by decide), e_ 43 (by decide), e_ 44 (by decide), e_ 38 (by decide), e_ 8 (by decide), f_ 76 (by decide), f_ 77 (by decide), f_ 78 (by decide), f_ 79 (by decide), f_ 80 (by decide), f_ 59 (by decide), f_ 60 (by decide), f_ 61 (by decide), f_ 62 (by decide), f_ 63 (by decide), f_ 64 (by decide), f_ 81 (by decide), f_ 82 (by decide), f_ 83 (by decide), f_ 84 (by decide), f_ 85 (by decide)]
    exact a2
theorem s_act {hx hm_ : hp} (H_ : Sim hx hm_) (a_ b_ c_ : Int32) : ∃ hx' hm' r_, f_X11_act hx a_ b_ c_ = some (hx', r_) ∧ f_X12_act hm_ a_ b_ c_ = some (hm', r_) ∧ Sim hx' hm' := by
  obtain ⟨S_, hX, hM_, hok, ht⟩ := H_
  obtain ⟨c1_, c3_, c4_⟩ := hX.2.2.2.2.2.1
  obtain ⟨h1, x1_, x2_, x3⟩ := X_setLen c1_ c3_ hok.2.2.2.2.1
  have hX1 : RX h1 (S_.1, S_.2.1, S_.2.2.1, S_.2.2.2.1, []) := RX_out (tt := []) (tx := S_.2.2.2.1) x3 (fun j_ hj => by omega) hX (by rw [(x3.2 25 (by omega)).1, (x3.2 26 (by omega)).2.2.1]; exact hX.2.2.2.1) x2_
  have m1_ : agB hm_ (sI hm_ 52 55 0) := ⟨rfl, rfl, fun q_ k_ hk => by rw [hI_sI, if_neg hk], fun _ _ => rfl⟩
  have m2_ : TRM (sI hm_ 52 55 0) [] := ⟨rfl, fun i_ q_ hq => by simp at hq⟩
  have hM1 := RM_agB (q_ := []) m1_ hM_ m2_
  have hok1 : SOK (S_.1, S_.2.1, S_.2.2.1, S_.2.2.2.1, []) := ⟨hok.1, hok.2.1, hok.2.2.1, hok.2.2.2.1, Nat.zero_le _, fun q_ hq => by simp at hq⟩
  have ht1 : TP h1 (sI hm_ 52 55 0) := TP_ag x3 (fun j_ hj => by omega) rfl rfl rfl ht
  have done_ : Sim h1 (sI hm_ 52 55 0) := ⟨_, hX1, hM1, hok1, ht1⟩
  have e0_ : hI (sI hm_ 52 55 0) 52 1 = nI (sp S_.1) := hM_.1.2.1.1
  have hp5 := hok.1.1.2.1.1
  unfold f_X11_act f_X12_act f_X12_act_23 f_X12_act_58
  rw [bnd_of x1_, nm_eq, bnr_of (X_isSender hX1.1.1 hok.1.1), bnr_of (M_isSender e0_ (by omega)), bnr_of (M_in0 (n := 3) (by decide) (by decide))]
  rcases arg_split a_ (sp S_.1) (by omega) with ⟨p_, hp, rfl⟩ | hx0
  · rw [if_neg (arg_no hp (by omega)), if_neg ne10, if_neg ne10]
    obtain ⟨o, ho, hs⟩ := hX1.1.1.2.1.2.1 p_ hp
    have hS_ : kdOf h1 o ∈ sndK := by rw [hs.2.2.1]; exact sndQ_in
    have k7_ := (hok.1.1.2.1.2 p_ hp).1
    have mm := hM1.1.2.1.2 p_ hp
    have A0 : AC o p_ (sK' S_.1 p_) (sV S_.1 p_) h1 (sI hm_ 52 55 0) h1 (sI hm_ 52 55 0) [] := ⟨agX.rf, agB.rf, x2_, m2_, fun q_ hq => by simp at hq, ⟨hs.1, hs.2.2.1, hs.2.2.2.1, hs.2.2.2.2.2⟩, mm.1, mm.2.1⟩
    have fin_ : ∀ {hx' hm' q'}, AC o p_ (sK' S_.1 p_) (sV S_.1 p_) h1 (sI hm_ 52 55 0) hx' hm' q' → q'.length ≤ 16 → Sim hx' hm' := by
      intro hx' hm' q' A_ hq
      obtain ⟨y1, y2, y3, y4, y5, -⟩ := A_
      refine ⟨(S_.1, S_.2.1, S_.2.2.1, S_.2.2.2.1, q'), ?_, RM_agB (S_ := (S_.1, S_.2.1, S_.2.2.1, S_.2.2.2.1, ([] : List Nat))) y2 hM1 y4, ⟨hok.1, hok.2.1, hok.2.2.1, hok.2.2.2.1, hq, y5⟩, ?_⟩
      · exact RX_out (S_ := (S_.1, S_.2.1, S_.2.2.1, S_.2.2.2.1, ([] : List Nat))) (tt := q') (tx := S_.2.2.2.1) y1 (fun j_ hj => by omega) hX1 (by rw [(y1.2 25 (by omega)).1, (y1.2 26 (by omega)).2.2.1]; exact hX1.2.2.2.1) y3
      · refine TP_ag y1 (fun j_ hj => by omega) (y2.2.2.2 87 (by decide)) (y2.2.2.2 88 (by decide)) ?_ ht1
        funext k_
        show hm'.2.2.2.1 89 k_ = _
        rw [y2.2.1]; rfl
    rw [chk_of (vp_in_nI (n := p_) (N := 5) (by omega) (by decide)), nI_clamp (n := p_) (by omega), onO_of (show aR h1 4 p_ = some o from ho)]
    rcases arg_split b_ 3 (by decide) with ⟨k_, hk, rfl⟩ | hb_
    · rw [if_neg (arg_no hk (by decide)), if_neg ne10]
      rcases (show k_ = 0 ∨ k_ = 1 ∨ k_ = 2 by omega) with rfl | rfl | rfl
      · obtain ⟨hx', hm', q', r_, y1, y2, y3, y4⟩ := A_tilts hs.2.1 (by omega) k7_ c_ h1 _ [] A0 (by decide)
        have y1 : f_D_tilts h1 o c_ 33 = some (hx', r_) := y1
        have y2 : f_X12_tiltsAct (sI hm_ 52 55 0) (nI p_) c_ = some (hm', r_) := y2
        have z0 : nI 0 = (0 : Int32) := rfl
        rw [if_pos z0, if_pos z0, ckS_of hs.1 hS_, bnd_of y1, bnd_of y2]
        exact ⟨hx', hm', r_, rfl, rfl, fin_ y3 (by simp only [List.length_nil] at y4; omega)⟩
      · obtain ⟨hx', hm', q', r_, y1, y2, y3, y4⟩ := A_sends hs.2.1 (by omega) k7_ c_ h1 _ [] A0 (by decide)
        have y1 : f_D_sends h1 o c_ 33 = some (hx', r_) := y1
        have y2 : f_X12_sendsAct (sI hm_ 52 55 0) (nI p_) c_ = some (hm', r_) := y2
        have z0 : ¬ nI 1 = (0 : Int32) := by decide
        have z1 : nI 1 = (1 : Int32) := rfl
        rw [if_neg z0, if_neg z0, if_pos z1, if_pos z1, ckS_of hs.1 hS_, bnd_of y1, bnd_of y2]
        exact ⟨hx', hm', r_, rfl, rfl, fin_ y3 (by simp only [List.length_nil] at y4; omega)⟩
      · obtain ⟨hx', hm', q', r_, y1, y2, y3, y4⟩ := A_tells hs.2.1 (by omega) k7_ c_ h1 _ [] A0 (by decide)
        have y1 : f_D_tells h1 o c_ 33 = some (hx', r_) := y1
        have y2 : f_X12_tellsAct (sI hm_ 52 55 0) (nI p_) c_ = some (hm', r_) := y2
        have z0 : ¬ nI 2 = (0 : Int32) := by decide
        have z1 : ¬ nI 2 = (1 : Int32) := by decide
        have z2 : nI 2 = (2 : Int32) := rfl
        rw [if_neg z0, if_neg z0, if_neg z1, if_neg z1, if_pos z2, ckS_of hs.1 hS_, bnd_of y1, bnd_of y2]
        exact ⟨hx', hm', r_, rfl, rfl, fin_ y3 (by simp only [List.length_nil] at y4; omega)⟩
    · have n_ : ∀ k_, k_ < 3 → ¬ b_ = nI k_ := fun k_ hk z_ => by rw [z_] at hb_; exact arg_no hk (by decide) hb_
      have n0_ : ¬ b_ = (0 : Int32) := n_ 0 (by decide)
      have n1_ : ¬ b_ = (1 : Int32) := n_ 1 (by decide)
      have n2_ : ¬ b_ = (2 : Int32) := n_ 2 (by decide)
      rw [if_pos hb_, if_pos rfl, if_neg n0_, if_neg n1_, if_neg n2_]
      exact ⟨_, _, _, rfl, rfl, done_⟩
  · rw [if_pos hx0, if_pos rfl, if_pos rfl]
    exact ⟨_, _, _, rfl, rfl, done_⟩
