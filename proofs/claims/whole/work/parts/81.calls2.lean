-- ===== calls: see_, book_, relay, looked, taken, trace =====
theorem s_see {hx hm_ : hp} (H_ : Sim hx hm_) (a_ b_ : Int32) : ∃ hx' hm' r_, f_X11_see hx a_ b_ = some (hx', r_) ∧ f_X12_see hm_ a_ b_ = some (hm', r_) ∧ Sim hx' hm' := by
  have H0 := H_
  obtain ⟨S_, hX, hM_, hok, ht⟩ := H_
  have e0_ : hI hm_ 52 0 = nI (sn S_.1) := hM_.1.1.1
  have e1_ : hI hm_ 52 29 = nI S_.1.2.2.2.1.1 := hM_.1.2.2.2.1.1
  have hn8 := hok.1.1.1.1
  have hl5 := hok.1.1.2.2.2.1.1
  obtain ⟨⟨q1_, q2_, q3_, q4_, q5_, q6_, q7_⟩, qn⟩ := hX.1
  have rw7 := rwX_seen hX.1.1 hok.1.1
  unfold f_X11_see f_X11_addPair f_X11_addPair_54 f_X12_see
  by_cases ha_ : a_ = -1
  · rw [if_pos ha_, if_pos ha_, ckO_of (show sd 1 7 = true from rfl) (show kdOf hx 7 = 4 from rfl), bnd_of (X2_clear rw7), nm_eq]
    have x_ : agX (fun j_ => 7 ≤ j_ ∧ j_ ≤ 8) hx (sI hx 7 1 0) := agX_sI (by omega)
    refine ⟨_, _, _, rfl, rfl, (setSe S_.1 (0, (fun _ => 0), fun _ => 0), S_.2), ?_, ?_, ?_, ?_⟩
    · exact RX_now x_ (fun j_ hj => by omega) rfl ⟨⟨q1_, sndsX_ag (σ := S_.1) x_ (fun j_ hj => by omega) rfl rfl rfl rfl q2_, q3_, ⟨rfl, fun k_ hk => absurd hk (Nat.not_lt_zero _)⟩, q5_, q6_, wardX_ag (σ := S_.1) x_ (fun j_ hj => by omega) rfl q7_⟩, qn⟩ hX
    · exact ⟨⟨hM_.1.1, hM_.1.2.1, hM_.1.2.2.1, ⟨rfl, fun k_ hk => absurd hk (Nat.not_lt_zero _)⟩, hM_.1.2.2.2.2⟩, hM_.2⟩
    · exact ⟨⟨⟨hok.1.1.1, hok.1.1.2.1, hok.1.1.2.2.1, ⟨Nat.zero_le _, fun k_ hk => absurd hk (Nat.not_lt_zero _)⟩, hok.1.1.2.2.2.2⟩, hok.1.2⟩, hok.2⟩
    · exact TP_now x_ (fun j_ hj => by omega) (by funext b_; rfl) (by funext b_; rfl) (by funext b_; rfl) ht
  · rw [if_neg ha_, if_neg ha_, bnr_of (X_isWord hX.1.1 hok.1.1), bnr_of (M_isWord e0_ (by omega))]
    rcases arg_split a_ (sn S_.1) (by omega) with ⟨w_, hw, rfl⟩ | hx0
    · rw [if_neg (arg_no hw (by omega)), if_neg ne10, if_neg ne10, bnr_of X_isSign, bnr_of M_isSign]
      rcases arg_split b_ 1024 (by decide) with ⟨s_, hs, rfl⟩ | hx1
      · rw [if_neg (arg_no hs (by decide)), if_neg ne10, if_neg ne10, ckO_of (show sd 1 7 = true from rfl) (show kdOf hx 7 = 4 from rfl), bnr_of (X2_isFull rw7), e1_]
        by_cases hc_ : S_.1.2.2.2.1.1 < 5
        · rw [if_pos hc_, if_pos rfl, ckO_of (show sd 1 7 = true from rfl) (show kdOf hx 7 = 4 from rfl), bnd_of (X2_add rw7 hc_), bnd_of rfl, if_neg (show ¬ nI S_.1.2.2.2.1.1 = (5 : Int32) from fun z_ => by have := (nI_eq (b := 5) (by omega) (by decide)).mp z_; omega), chk_of (vp_in_nI (n := S_.1.2.2.2.1.1) (N := 5) hc_ (by decide)), nm_eq, nI_clamp (n := S_.1.2.2.2.1.1) (by omega), hI_tI, e1_, chk_of (vp_in_nI (n := S_.1.2.2.2.1.1) (N := 5) hc_ (by decide)), nm_eq, nI_clamp (n := S_.1.2.2.2.1.1) (by omega), hI_tI, hI_tI, e1_, nI_1, nm_eq, hI_sI, if_pos ⟨rfl, rfl⟩, show (1024 : Int32) = nI 1024 from rfl, pk_mul, nI_add]
          generalize hv : w_ * 1024 + s_ = v_
          have x_ : agX (fun j_ => 7 ≤ j_ ∧ j_ ≤ 8) hx (sI (tI hx (7 + 1) S_.1.2.2.2.1.1 (nI v_)) 7 1 (nI (S_.1.2.2.2.1.1 + 1))) := (agX_tI (by omega)).tr (agX_sI (by omega))
          have nx1 : ∀ k_, k_ < S_.1.2.2.2.1.1 + 1 → aI (sI (tI hx (7 + 1) S_.1.2.2.2.1.1 (nI v_)) 7 1 (nI (S_.1.2.2.2.1.1 + 1))) 8 k_ = nI ((snoc2 S_.1.2.2.2.1 w_ s_).2.1 k_ * 1024 + (snoc2 S_.1.2.2.2.1 w_ s_).2.2 k_) := fun k_ hk => by
            show (if 8 = 8 ∧ k_ = S_.1.2.2.2.1.1 then nI v_ else aI hx 8 k_) = nI ((if k_ = S_.1.2.2.2.1.1 then w_ else S_.1.2.2.2.1.2.1 k_) * 1024 + (if k_ = S_.1.2.2.2.1.1 then s_ else S_.1.2.2.2.1.2.2 k_))
            by_cases e_ : k_ = S_.1.2.2.2.1.1
            · rw [if_pos ⟨rfl, e_⟩, if_pos e_, if_pos e_, hv]
            · rw [if_neg (by rintro ⟨-, h_⟩; exact e_ h_), if_neg e_, if_neg e_]; exact q4_.2 k_ (by omega)
          refine ⟨_, _, _, rfl, rfl, (setSe S_.1 (snoc2 S_.1.2.2.2.1 w_ s_), S_.2), ?_, ?_, ?_, ?_⟩
          · exact RX_now x_ (fun j_ hj => by omega) rfl ⟨⟨q1_, sndsX_ag (σ := S_.1) x_ (fun j_ hj => by omega) rfl rfl rfl rfl q2_, q3_, ⟨rfl, nx1⟩, q5_, q6_, wardX_ag (σ := S_.1) x_ (fun j_ hj => by omega) rfl q7_⟩, qn⟩ hX
          · refine ⟨⟨hM_.1.1, hM_.1.2.1, hM_.1.2.2.1, ⟨rfl, fun k_ hk => ?_⟩, hM_.1.2.2.2.2⟩, hM_.2⟩
            have hk1 : k_ < S_.1.2.2.2.1.1 + 1 := hk
            constructor
            · show (if 71 = 71 ∧ k_ = S_.1.2.2.2.1.1 then nI w_ else aI hm_ 71 k_) = nI (if k_ = S_.1.2.2.2.1.1 then w_ else S_.1.2.2.2.1.2.1 k_)
              by_cases e_ : k_ = S_.1.2.2.2.1.1
              · rw [if_pos ⟨rfl, e_⟩, if_pos e_]
              · rw [if_neg (by rintro ⟨-, h_⟩; exact e_ h_), if_neg e_]; exact (hM_.1.2.2.2.1.2 k_ (by omega)).1
            · show (if 72 = 72 ∧ k_ = S_.1.2.2.2.1.1 then nI s_ else aI hm_ 72 k_) = nI (if k_ = S_.1.2.2.2.1.1 then s_ else S_.1.2.2.2.1.2.2 k_)
              by_cases e_ : k_ = S_.1.2.2.2.1.1
              · rw [if_pos ⟨rfl, e_⟩, if_pos e_]
              · rw [if_neg (by rintro ⟨-, h_⟩; exact e_ h_), if_neg e_]; exact (hM_.1.2.2.2.1.2 k_ (by omega)).2
          · refine ⟨⟨⟨hok.1.1.1, hok.1.1.2.1, hok.1.1.2.2.1, ⟨hc_, fun k_ hk => ?_⟩, hok.1.1.2.2.2.2⟩, hok.1.2⟩, hok.2⟩
            have hk1 : k_ < S_.1.2.2.2.1.1 + 1 := hk
            show (if k_ = S_.1.2.2.2.1.1 then w_ else S_.1.2.2.2.1.2.1 k_) < sn S_.1 ∧ (if k_ = S_.1.2.2.2.1.1 then s_ else S_.1.2.2.2.1.2.2 k_) < 1024
            by_cases e_ : k_ = S_.1.2.2.2.1.1
            · rw [if_pos e_, if_pos e_]; exact ⟨hw, hs⟩
            · rw [if_neg e_, if_neg e_]; exact hok.1.1.2.2.2.1.2 k_ (by omega)
          · exact TP_now x_ (fun j_ hj => by omega) (by funext b_; rfl) (by funext b_; rfl) (by funext b_; rfl) ht
        · rw [if_neg hc_, if_neg ne10, if_pos (show nI S_.1.2.2.2.1.1 = (5 : Int32) by rw [show S_.1.2.2.2.1.1 = 5 by omega]; rfl)]
          exact ⟨hx, hm_, _, rfl, rfl, H0⟩
      · rw [if_pos hx1, if_pos rfl, if_pos rfl]
        exact ⟨hx, hm_, _, rfl, rfl, H0⟩
    · rw [if_pos hx0, if_pos rfl, if_pos rfl]
      exact ⟨hx, hm_, _, rfl, rfl, H0⟩
theorem s_book {hx hm_ : hp} (H_ : Sim hx hm_) (a_ b_ : Int32) : ∃ hx' hm' r_, f_X11_book hx a_ b_ = some (hx', r_) ∧ f_X12_book hm_ a_ b_ = some (hm', r_) ∧ Sim hx' hm' := by
  have H0 := H_
  obtain ⟨S_, hX, hM_, hok, ht⟩ := H_
  have e0_ : hI hm_ 52 0 = nI (sn S_.1) := hM_.1.1.1
  have e1_ : hI hm_ 52 33 = nI S_.1.2.2.2.2.2.1.1 := hM_.1.2.2.2.2.2.1.1
  have hn8 := hok.1.1.1.1
  have hl5 := hok.1.1.2.2.2.2.2.1.1
  obtain ⟨⟨q1_, q2_, q3_, q4_, q5_, q6_, q7_⟩, qn⟩ := hX.1
  have rw7 := rwX_book hX.1.1 hok.1.1
  unfold f_X11_book f_X11_addPair f_X11_addPair_54 f_X12_book
  by_cases ha_ : a_ = -1
  · rw [if_pos ha_, if_pos ha_, ckO_of (show sd 1 11 = true from rfl) (show kdOf hx 11 = 4 from rfl), bnd_of (X2_clear rw7), nm_eq]
    have x_ : agX (fun j_ => 11 ≤ j_ ∧ j_ ≤ 12) hx (sI hx 11 1 0) := agX_sI (by omega)
    refine ⟨_, _, _, rfl, rfl, (setBo S_.1 (0, (fun _ => 0), fun _ => 0), S_.2), ?_, ?_, ?_, ?_⟩
    · exact RX_now x_ (fun j_ hj => by omega) rfl ⟨⟨q1_, sndsX_ag (σ := S_.1) x_ (fun j_ hj => by omega) rfl rfl rfl rfl q2_, q3_, q4_, q5_, ⟨rfl, fun k_ hk => absurd hk (Nat.not_lt_zero _)⟩, wardX_ag (σ := S_.1) x_ (fun j_ hj => by omega) rfl q7_⟩, qn⟩ hX
    · exact ⟨⟨hM_.1.1, hM_.1.2.1, hM_.1.2.2.1, hM_.1.2.2.2.1, hM_.1.2.2.2.2.1, ⟨rfl, fun k_ hk => absurd hk (Nat.not_lt_zero _)⟩, hM_.1.2.2.2.2.2.2⟩, hM_.2⟩
    · exact ⟨⟨⟨hok.1.1.1, hok.1.1.2.1, hok.1.1.2.2.1, hok.1.1.2.2.2.1, hok.1.1.2.2.2.2.1, ⟨Nat.zero_le _, fun k_ hk => absurd hk (Nat.not_lt_zero _)⟩, hok.1.1.2.2.2.2.2.2⟩, hok.1.2⟩, hok.2⟩
    · exact TP_now x_ (fun j_ hj => by omega) (by funext b_; rfl) (by funext b_; rfl) (by funext b_; rfl) ht
  · rw [if_neg ha_, if_neg ha_, bnr_of (X_isWord hX.1.1 hok.1.1), bnr_of (M_isWord e0_ (by omega))]
    rcases arg_split a_ (sn S_.1) (by omega) with ⟨w_, hw, rfl⟩ | hx0
    · rw [if_neg (arg_no hw (by omega)), if_neg ne10, if_neg ne10, bnr_of X_isSign, bnr_of M_isSign]
      rcases arg_split b_ 1024 (by decide) with ⟨s_, hs, rfl⟩ | hx1
      · rw [if_neg (arg_no hs (by decide)), if_neg ne10, if_neg ne10, ckO_of (show sd 1 11 = true from rfl) (show kdOf hx 11 = 4 from rfl), bnr_of (X2_isFull rw7), e1_]
        by_cases hc_ : S_.1.2.2.2.2.2.1.1 < 8
        · rw [if_pos hc_, if_pos rfl, ckO_of (show sd 1 11 = true from rfl) (show kdOf hx 11 = 4 from rfl), bnd_of (X2_add rw7 hc_), bnd_of rfl, if_neg (show ¬ nI S_.1.2.2.2.2.2.1.1 = (8 : Int32) from fun z_ => by have := (nI_eq (b := 8) (by omega) (by decide)).mp z_; omega), chk_of (vp_in_nI (n := S_.1.2.2.2.2.2.1.1) (N := 8) hc_ (by decide)), nm_eq, nI_clamp (n := S_.1.2.2.2.2.2.1.1) (by omega), hI_tI, e1_, chk_of (vp_in_nI (n := S_.1.2.2.2.2.2.1.1) (N := 8) hc_ (by decide)), nm_eq, nI_clamp (n := S_.1.2.2.2.2.2.1.1) (by omega), hI_tI, hI_tI, e1_, nI_1, nm_eq, hI_sI, if_pos ⟨rfl, rfl⟩, show (1024 : Int32) = nI 1024 from rfl, pk_mul, nI_add]
          generalize hv : w_ * 1024 + s_ = v_
          have x_ : agX (fun j_ => 11 ≤ j_ ∧ j_ ≤ 12) hx (sI (tI hx (11 + 1) S_.1.2.2.2.2.2.1.1 (nI v_)) 11 1 (nI (S_.1.2.2.2.2.2.1.1 + 1))) := (agX_tI (by omega)).tr (agX_sI (by omega))
          have nx1 : ∀ k_, k_ < S_.1.2.2.2.2.2.1.1 + 1 → aI (sI (tI hx (11 + 1) S_.1.2.2.2.2.2.1.1 (nI v_)) 11 1 (nI (S_.1.2.2.2.2.2.1.1 + 1))) 12 k_ = nI ((snoc2 S_.1.2.2.2.2.2.1 w_ s_).2.1 k_ * 1024 + (snoc2 S_.1.2.2.2.2.2.1 w_ s_).2.2 k_) := fun k_ hk => by
            show (if 12 = 12 ∧ k_ = S_.1.2.2.2.2.2.1.1 then nI v_ else aI hx 12 k_) = nI ((if k_ = S_.1.2.2.2.2.2.1.1 then w_ else S_.1.2.2.2.2.2.1.2.1 k_) * 1024 + (if k_ = S_.1.2.2.2.2.2.1.1 then s_ else S_.1.2.2.2.2.2.1.2.2 k_))
            by_cases e_ : k_ = S_.1.2.2.2.2.2.1.1
            · rw [if_pos ⟨rfl, e_⟩, if_pos e_, if_pos e_, hv]
            · rw [if_neg (by rintro ⟨-, h_⟩; exact e_ h_), if_neg e_, if_neg e_]; exact q6_.2 k_ (by omega)
          refine ⟨_, _, _, rfl, rfl, (setBo S_.1 (snoc2 S_.1.2.2.2.2.2.1 w_ s_), S_.2), ?_, ?_, ?_, ?_⟩
          · exact RX_now x_ (fun j_ hj => by omega) rfl ⟨⟨q1_, sndsX_ag (σ := S_.1) x_ (fun j_ hj => by omega) rfl rfl rfl rfl q2_, q3_, q4_, q5_, ⟨rfl, nx1⟩, wardX_ag (σ := S_.1) x_ (fun j_ hj => by omega) rfl q7_⟩, qn⟩ hX
          · refine ⟨⟨hM_.1.1, hM_.1.2.1, hM_.1.2.2.1, hM_.1.2.2.2.1, hM_.1.2.2.2.2.1, ⟨rfl, fun k_ hk => ?_⟩, hM_.1.2.2.2.2.2.2⟩, hM_.2⟩
            have hk1 : k_ < S_.1.2.2.2.2.2.1.1 + 1 := hk
            constructor
            · show (if 74 = 74 ∧ k_ = S_.1.2.2.2.2.2.1.1 then nI w_ else aI hm_ 74 k_) = nI (if k_ = S_.1.2.2.2.2.2.1.1 then w_ else S_.1.2.2.2.2.2.1.2.1 k_)
              by_cases e_ : k_ = S_.1.2.2.2.2.2.1.1
              · rw [if_pos ⟨rfl, e_⟩, if_pos e_]
              · rw [if_neg (by rintro ⟨-, h_⟩; exact e_ h_), if_neg e_]; exact (hM_.1.2.2.2.2.2.1.2 k_ (by omega)).1
            · show (if 75 = 75 ∧ k_ = S_.1.2.2.2.2.2.1.1 then nI s_ else aI hm_ 75 k_) = nI (if k_ = S_.1.2.2.2.2.2.1.1 then s_ else S_.1.2.2.2.2.2.1.2.2 k_)
              by_cases e_ : k_ = S_.1.2.2.2.2.2.1.1
              · rw [if_pos ⟨rfl, e_⟩, if_pos e_]
              · rw [if_neg (by rintro ⟨-, h_⟩; exact e_ h_), if_neg e_]; exact (hM_.1.2.2.2.2.2.1.2 k_ (by omega)).2
          · refine ⟨⟨⟨hok.1.1.1, hok.1.1.2.1, hok.1.1.2.2.1, hok.1.1.2.2.2.1, hok.1.1.2.2.2.2.1, ⟨hc_, fun k_ hk => ?_⟩, hok.1.1.2.2.2.2.2.2⟩, hok.1.2⟩, hok.2⟩
            have hk1 : k_ < S_.1.2.2.2.2.2.1.1 + 1 := hk
            show (if k_ = S_.1.2.2.2.2.2.1.1 then w_ else S_.1.2.2.2.2.2.1.2.1 k_) < sn S_.1 ∧ (if k_ = S_.1.2.2.2.2.2.1.1 then s_ else S_.1.2.2.2.2.2.1.2.2 k_) < 1024
            by_cases e_ : k_ = S_.1.2.2.2.2.2.1.1
            · rw [if_pos e_, if_pos e_]; exact ⟨hw, hs⟩
            · rw [if_neg e_, if_neg e_]; exact hok.1.1.2.2.2.2.2.1.2 k_ (by omega)
          · exact TP_now x_ (fun j_ hj => by omega) (by funext b_; rfl) (by funext b_; rfl) (by funext b_; rfl) ht
        · rw [if_neg hc_, if_neg ne10, if_pos (show nI S_.1.2.2.2.2.2.1.1 = (8 : Int32) by rw [show S_.1.2.2.2.2.2.1.1 = 8 by omega]; rfl)]
          exact ⟨hx, hm_, _, rfl, rfl, H0⟩
      · rw [if_pos hx1, if_pos rfl, if_pos rfl]
        exact ⟨hx, hm_, _, rfl, rfl, H0⟩
    · rw [if_pos hx0, if_pos rfl, if_pos rfl]
      exact ⟨hx, hm_, _, rfl, rfl, H0⟩
theorem s_relay {hx hm_ : hp} (H_ : Sim hx hm_) (a_ : Int32) : ∃ hx' hm' r_, f_X11_relay hx a_ = some (hx', r_) ∧ f_X12_relay hm_ a_ = some (hm', r_) ∧ Sim hx' hm' := by
  have H0 := H_
  obtain ⟨S_, hX, hM_, hok, ht⟩ := H_
  have e0_ : hI hm_ 52 1 = nI (sp S_.1) := hM_.1.2.1.1
  have e1_ : hI hm_ 52 32 = nI S_.1.2.2.2.2.1.1 := hM_.1.2.2.2.2.1.1
  have hp5 := hok.1.1.2.1.1
  have hl8 := hok.1.1.2.2.2.2.1.1
  obtain ⟨⟨q1_, q2_, q3_, q4_, q5_, q6_, q7_⟩, qn⟩ := hX.1
  have rw9 := rwX_relay hX.1.1 hok.1.1
  have comes : ∀ w_, (w_ < sp S_.1 ∨ w_ = 5) → ∃ hx' hm' r_, f_X11_relay_32 hx (nI w_) = some (hx', r_) ∧ f_X12_relay_27 hm_ (nI w_) = some (hm', r_) ∧ Sim hx' hm' := by
    intro w_ hw
    unfold f_X11_relay_32 f_X12_relay_27 f_X11_relay_61
    rw [bnr_of (X2_isFull rw9), e1_]
    by_cases hc_ : S_.1.2.2.2.2.1.1 < 8
    · rw [if_pos hc_, if_pos rfl, bnd_of (X2_add rw9 hc_), if_neg (show ¬ nI S_.1.2.2.2.2.1.1 = (8 : Int32) from fun z_ => by have := (nI_eq (b := 8) (by omega) (by decide)).mp z_; omega), chk_of (vp_in_nI (n := S_.1.2.2.2.2.1.1) (N := 8) hc_ (by decide)), nm_eq, nI_clamp (n := S_.1.2.2.2.2.1.1) (by omega), hI_tI, e1_, nI_1, nm_eq, hI_sI, if_pos ⟨rfl, rfl⟩]
      have x_ : agX (fun j_ => 9 ≤ j_ ∧ j_ ≤ 10) hx (sI (tI hx (9 + 1) S_.1.2.2.2.2.1.1 (nI w_)) 9 1 (nI (S_.1.2.2.2.2.1.1 + 1))) := (agX_tI (by omega)).tr (agX_sI (by omega))
      refine ⟨_, _, _, rfl, rfl, (setRe S_.1 (S_.1.2.2.2.2.1.1 + 1, fun k_ => if k_ = S_.1.2.2.2.2.1.1 then w_ else S_.1.2.2.2.2.1.2 k_), S_.2), ?_, ?_, ?_, ?_⟩
      · refine RX_now x_ (fun j_ hj => by omega) rfl ⟨⟨q1_, sndsX_ag (σ := S_.1) x_ (fun j_ hj => by omega) rfl rfl rfl rfl q2_, q3_, q4_, ⟨rfl, fun k_ hk => ?_⟩, q6_, wardX_ag (σ := S_.1) x_ (fun j_ hj => by omega) rfl q7_⟩, qn⟩ hX
        have hk1 : k_ < S_.1.2.2.2.2.1.1 + 1 := hk
        show (if 10 = 10 ∧ k_ = S_.1.2.2.2.2.1.1 then nI w_ else aI hx 10 k_) = nI (if k_ = S_.1.2.2.2.2.1.1 then w_ else S_.1.2.2.2.2.1.2 k_)
        by_cases e_ : k_ = S_.1.2.2.2.2.1.1
        · rw [if_pos ⟨rfl, e_⟩, if_pos e_]
        · rw [if_neg (by rintro ⟨-, h_⟩; exact e_ h_), if_neg e_]; exact q5_.2 k_ (by omega)
      · refine ⟨⟨hM_.1.1, hM_.1.2.1, hM_.1.2.2.1, hM_.1.2.2.2.1, ⟨rfl, fun k_ hk => ?_⟩, hM_.1.2.2.2.2.2⟩, hM_.2⟩
        have hk1 : k_ < S_.1.2.2.2.2.1.1 + 1 := hk
        show (if 73 = 73 ∧ k_ = S_.1.2.2.2.2.1.1 then nI w_ else aI hm_ 73 k_) = nI (if k_ = S_.1.2.2.2.2.1.1 then w_ else S_.1.2.2.2.2.1.2 k_)
        by_cases e_ : k_ = S_.1.2.2.2.2.1.1
        · rw [if_pos ⟨rfl, e_⟩, if_pos e_]
        · rw [if_neg (by rintro ⟨-, h_⟩; exact e_ h_), if_neg e_]; exact hM_.1.2.2.2.2.1.2 k_ (by omega)
      · refine ⟨⟨⟨hok.1.1.1, hok.1.1.2.1, hok.1.1.2.2.1, hok.1.1.2.2.2.1, ⟨hc_, fun k_ hk => ?_⟩, hok.1.1.2.2.2.2.2⟩, hok.1.2⟩, hok.2⟩
        have hk1 : k_ < S_.1.2.2.2.2.1.1 + 1 := hk
        show (if k_ = S_.1.2.2.2.2.1.1 then w_ else S_.1.2.2.2.2.1.2 k_) < sp S_.1 ∨ (if k_ = S_.1.2.2.2.2.1.1 then w_ else S_.1.2.2.2.2.1.2 k_) = 5
        by_cases e_ : k_ = S_.1.2.2.2.2.1.1
        · rw [if_pos e_]; exact hw
        · rw [if_neg e_]; exact hok.1.1.2.2.2.2.1.2 k_ (by omega)
      · exact TP_now x_ (fun j_ hj => by omega) (by funext b_; rfl) (by funext b_; rfl) (by funext b_; rfl) ht
    · rw [if_neg hc_, if_neg ne10, if_pos (show nI S_.1.2.2.2.2.1.1 = (8 : Int32) by rw [show S_.1.2.2.2.2.1.1 = 8 by omega]; rfl)]
      exact ⟨hx, hm_, _, rfl, rfl, H0⟩
  unfold f_X11_relay f_X12_relay
  by_cases ha_ : a_ = -1
  · rw [if_pos ha_, if_pos ha_, bnd_of (X2_clear rw9), nm_eq]
    have x_ : agX (fun j_ => 9 ≤ j_ ∧ j_ ≤ 10) hx (sI hx 9 1 0) := agX_sI (by omega)
    refine ⟨_, _, _, rfl, rfl, (setRe S_.1 (0, fun _ => 0), S_.2), ?_, ?_, ?_, ?_⟩
    · exact RX_now x_ (fun j_ hj => by omega) rfl ⟨⟨q1_, sndsX_ag (σ := S_.1) x_ (fun j_ hj => by omega) rfl rfl rfl rfl q2_, q3_, q4_, ⟨rfl, fun k_ hk => absurd hk (Nat.not_lt_zero _)⟩, q6_, wardX_ag (σ := S_.1) x_ (fun j_ hj => by omega) rfl q7_⟩, qn⟩ hX
    · exact ⟨⟨hM_.1.1, hM_.1.2.1, hM_.1.2.2.1, hM_.1.2.2.2.1, ⟨rfl, fun k_ hk => absurd hk (Nat.not_lt_zero _)⟩, hM_.1.2.2.2.2.2⟩, hM_.2⟩
    · exact ⟨⟨⟨hok.1.1.1, hok.1.1.2.1, hok.1.1.2.2.1, hok.1.1.2.2.2.1, ⟨Nat.zero_le _, fun k_ hk => absurd hk (Nat.not_lt_zero _)⟩, hok.1.1.2.2.2.2.2⟩, hok.1.2⟩, hok.2⟩
    · exact TP_now x_ (fun j_ hj => by omega) (by funext b_; rfl) (by funext b_; rfl) (by funext b_; rfl) ht
  · rw [if_neg ha_, if_neg ha_]
    by_cases h5 : a_ = 5
    · rw [if_pos h5, if_pos h5, h5]
      exact comes 5 (Or.inr rfl)
    · rw [if_neg h5, if_neg h5, bnr_of (X_isSender hX.1.1 hok.1.1), bnr_of (M_isSender e0_ (by omega))]
      rcases arg_split a_ (sp S_.1) (by omega) with ⟨w_, hw, rfl⟩ | hx0
      · rw [if_neg (arg_no hw (by omega)), if_neg ne10, if_neg ne10]
        exact comes w_ (Or.inl hw)
      · rw [if_pos hx0, if_pos rfl, if_pos rfl]
        exact ⟨hx, hm_, _, rfl, rfl, H0⟩
theorem div1024 {w_ s_ : Nat} (hw : w_ < 8) (hs : s_ < 1024) : nI (w_ * 1024 + s_) / (1024 : Int32) = nI w_ := (div_nI (d := 1024) (by omega) (by decide) (by decide) rfl).trans (congrArg nI (by omega))
theorem rem1024 {w_ s_ : Nat} (hw : w_ < 8) (hs : s_ < 1024) : nI (w_ * 1024 + s_) - nI (w_ * 1024 + s_) / (1024 : Int32) * (1024 : Int32) = nI s_ := (rem_nI (d := 1024) (by omega) (by decide) (by decide) rfl).trans (congrArg nI (by omega))
theorem rem1024b {w_ s_ : Nat} : nI (w_ * 1024 + s_) - nI w_ * (1024 : Int32) = nI s_ := by
  rw [show (1024 : Int32) = nI 1024 from rfl, pk_mul, pk_sub (by omega)]
  exact congrArg nI (by omega)
theorem s_looked {hx hm_ : hp} (H_ : Sim hx hm_) : ∃ r_, f_X11_looked hx = some r_ ∧ f_X12_looked hm_ = some r_ := by
  obtain ⟨S_, hX, hM_, hok, ht⟩ := H_
  have rw11 := rwX_book hX.1.1 hok.1.1
  have rw2 := rwX_words hX.1.1 hok.1.1
  have x1_ : hI hx 11 1 = nI S_.1.2.2.2.2.2.1.1 := hX.1.1.2.2.2.2.2.1.1
  have m1_ : hI hm_ 52 33 = nI S_.1.2.2.2.2.2.1.1 := hM_.1.2.2.2.2.2.1.1
  have hl8 := hok.1.1.2.2.2.2.2.1.1
  have hn8 := hok.1.1.1.1
  have go_ : ∀ m_ k_ n_, k_ + m_ = S_.1.2.2.2.2.2.1.1 → m_ < n_ → ∃ r_, f_X11_looked_2 hx n_ (nI k_) = some r_ ∧ f_X12_looked_2 hm_ n_ (nI k_) = some r_ := by
    intro m_
    induction m_ with
    | zero =>
      intro k_ n_ h1 h2
      obtain ⟨n_, rfl⟩ : ∃ j_, n_ = j_ + 1 := ⟨n_ - 1, by omega⟩
      have e_ : ¬ nI k_ < nI S_.1.2.2.2.2.2.1.1 := nI_nlt (by omega) (by omega)
      rw [f_X11_looked_2, f_X12_looked_2, x1_, m1_, if_neg e_, if_neg e_]
      exact ⟨_, rfl, rfl⟩
    | succ m_ ih_ =>
      intro k_ n_ h1 h2
      obtain ⟨n_, rfl⟩ : ∃ j_, n_ = j_ + 1 := ⟨n_ - 1, by omega⟩
      have hk : k_ < S_.1.2.2.2.2.2.1.1 := by omega
      have e_ : nI k_ < nI S_.1.2.2.2.2.2.1.1 := nI_lt hk (by omega)
      obtain ⟨w1_, w2_⟩ := hok.1.1.2.2.2.2.2.1.2 k_ hk
      obtain ⟨g1, g2⟩ := hM_.1.2.2.2.2.2.1.2 k_ hk
      have g3_ : aI hx (11 + 1) k_ = nI (S_.1.2.2.2.2.2.1.2.1 k_ * 1024 + S_.1.2.2.2.2.2.1.2.2 k_) := hX.1.1.2.2.2.2.2.1.2 k_ hk
      have g4 : aI hx (2 + 1) (S_.1.2.2.2.2.2.1.2.1 k_) = nI (sW S_.1 (S_.1.2.2.2.2.2.1.2.1 k_)) := hX.1.1.1.2 _ w1_
      have g5_ : aI hm_ 53 (S_.1.2.2.2.2.2.1.2.1 k_) = nI (sW S_.1 (S_.1.2.2.2.2.2.1.2.1 k_)) := hM_.1.1.2 _ w1_
      have hs := hok.1.1.1.2 _ w1_
      have ck : vp_in (nI k_) 8 := vp_in_nI (by omega) (by decide)
      rw [f_X11_looked_2, f_X12_looked_2, x1_, m1_, if_pos e_, if_pos e_, bnr_of (X2_get rw11 hk), g3_, nz_of (by decide), div1024 (by omega) w2_, bnr_of (X2_get rw2 w1_), g4, nz_of (by decide), rem1024b, chk_of ck, nI_clamp (n := k_) (by omega), show aI hm_ 74 k_ = nI (S_.1.2.2.2.2.2.1.2.1 k_) from g1, chk_of (vp_in_nI (n := S_.1.2.2.2.2.2.1.2.1 k_) (N := 8) (by omega) (by decide)), chk_of ck, nI_clamp (n := S_.1.2.2.2.2.2.1.2.1 k_) (by omega), g5_, show aI hm_ 75 k_ = nI (S_.1.2.2.2.2.2.1.2.2 k_) from g2]
      by_cases hq : nI (sW S_.1 (S_.1.2.2.2.2.2.1.2.1 k_)) = nI (S_.1.2.2.2.2.2.1.2.2 k_)
      · rw [if_pos hq, if_pos hq, nm_eq, nm_eq, nI_1]
        exact ih_ (k_ + 1) n_ (by omega) (by omega)
      · rw [if_neg hq, if_neg hq]
        exact ⟨_, rfl, rfl⟩
  exact go_ _ 0 2000 (Nat.zero_add _) (by omega)
theorem s_taken {hx hm_ : hp} (H_ : Sim hx hm_) (a_ b_ : Int32) : ∃ r_, f_X11_taken hx a_ b_ = some r_ ∧ f_X12_taken hm_ a_ b_ = some r_ := by
  obtain ⟨S_, hX, hM_, hok, ht⟩ := H_
  have e0_ : hI hm_ 52 1 = nI (sp S_.1) := hM_.1.2.1.1
  have hp5 := hok.1.1.2.1.1
  unfold f_X11_taken f_X12_taken f_X11_taken_10 f_X11_taken_51
  rw [bnr_of (M_in0 (n := 7) (by decide) (by decide)), bnr_of (X_isSender hX.1.1 hok.1.1), bnr_of (M_isSender e0_ (by omega))]
  rcases arg_split b_ 7 (by decide) with ⟨k_, hk, rfl⟩ | hx1
  · rw [if_neg (arg_no hk (by decide)), if_neg ne10, if_neg (nI_pos (by omega)), if_pos (show nI k_ < (7 : Int32) from nI_lt (b := 7) hk (by decide))]
    rcases arg_split a_ (sp S_.1) (by omega) with ⟨p_, hp, rfl⟩ | hx0
    · rw [if_neg (arg_no hp (by omega)), if_neg ne10, if_neg ne10]
      obtain ⟨o, ho, hs⟩ := hX.1.1.2.1.2.1 p_ hp
      have k7_ := (hok.1.1.2.1.2 p_ hp).1
      have hS_ : kdOf hx o ∈ sndK := by rw [hs.2.2.1]; exact sndQ_in
      have hin : vp_in (nI p_) 5 := vp_in_nI (by omega) (by decide)
      have m1_ : aI hm_ 54 p_ = nI (sK' S_.1 p_) := (hM_.1.2.1.2 p_ hp).1
      rw [chk_of hin, chk_of hin, nI_clamp (n := p_) (by omega), onO_of (show aR hx 4 p_ = some o from ho), ckS_of hs.1 hS_, show hI hx o 1 = nI (sK' S_.1 p_) from hs.2.2.2.2.1, m1_, nm_eq]
      have kk := hs.2.2.1
      unfold f_X11_isOfKind isK
      rw [ckS_of hs.1 hS_, ckS_of hs.1 hS_, ckS_of hs.1 hS_, ckS_of hs.1 hS_, ckS_of hs.1 hS_, ckS_of hs.1 hS_, kk]
      generalize sK' S_.1 p_ = K_ at k7_ ⊢
      rcases (show K_ = 0 ∨ K_ = 1 ∨ K_ = 2 ∨ K_ = 3 ∨ K_ = 4 ∨ K_ = 5 ∨ K_ = 6 by omega) with rfl | rfl | rfl | rfl | rfl | rfl | rfl <;> rcases (show k_ = 0 ∨ k_ = 1 ∨ k_ = 2 ∨ k_ = 3 ∨ k_ = 4 ∨ k_ = 5 ∨ k_ = 6 by omega) with rfl | rfl | rfl | rfl | rfl | rfl | rfl <;> exact ⟨_, rfl, rfl⟩
    · rw [if_pos hx0, if_pos rfl, if_pos rfl]
      exact ⟨_, rfl, rfl⟩
  · rw [if_pos hx1, if_pos rfl]
    by_cases h0 : b_ < 0
    · rw [if_pos h0]; exact ⟨_, rfl, rfl⟩
    · rw [if_neg h0, if_neg (show ¬ b_ < (7 : Int32) from lt_of_no hx1 h0)]; exact ⟨_, rfl, rfl⟩
theorem byte_ch : ∀ c_, c_ < 128 → ((nI c_ &&& (255 : Int32)).toUInt32 % 65536).toInt32 = nI c_ := by decide +kernel
theorem ckH_of {α : Type} {c_ : Nat} {a_ : Option α} (hc_ : c_ < 65536) : ckH (nI c_) a_ = a_ := if_pos (pk_charN hc_).1
theorem s_trace {hx hm_ : hp} (H_ : Sim hx hm_) (a_ : Int32) : ∃ r_, f_X11_trace hx a_ = some (hx, r_) ∧ f_X12_trace hm_ a_ = some r_ := by
  obtain ⟨S_, hX, hM_, hok, ht⟩ := H_
  obtain ⟨c1_, c3_, c4_⟩ := hX.2.2.2.2.2.1
  obtain ⟨d1_, d2_⟩ := hM_.2.2.2.2.2
  have hl := hok.2.2.2.2.1
  have x8 : f_J4_length_8abf5 hx 33 = some (nI S_.2.2.2.2.length) := by
    unfold f_J4_length_8abf5 f_J5_length_8abf5
    rw [ckO_of (show sd 1 33 = true from rfl) (show kdOf hx 33 = 1 from rfl), ckO_of (show sd 1 33 = true from rfl) (show kdOf hx 33 = 1 from rfl), c3_]; rfl
  unfold f_X11_trace f_X11_trace_32 f_X11_trace_33 f_X12_trace f_X12_trace_28 f_X12_trace_29
  rw [bnr_of (M_in0 (n := 20) (by decide) (by decide)), bnr_of x8, d1_]
  rcases arg_split a_ 20 (by decide) with ⟨i_, hi_, rfl⟩ | hx0
  · rw [if_neg (arg_no hi_ (by decide)), if_neg ne10, if_neg (nI_pos (by omega)), if_pos (show nI i_ < (20 : Int32) from nI_lt (b := 20) hi_ (by decide))]
    by_cases h_ : i_ < S_.2.2.2.2.length
    · have hg : S_.2.2.2.2[i_]? = some S_.2.2.2.2[i_] := List.getElem?_eq_getElem h_
      have hb_ := hok.2.2.2.2.2 _ (List.getElem_mem h_)
      have e1_ := c4_ i_ _ hg
      have e2_ := d2_ i_ _ hg
      rw [if_pos (nI_lt h_ (by omega)), if_pos (nI_lt h_ (by omega)), chk_of (vp_in_nI (n := i_) (N := 20) hi_ (by decide)), nI_clamp (n := i_) (by omega), e2_]
      have hA := fun (y_ : Option (hp × Int32)) => ckA_of (b := 1) (h := hx) (i := 33 + 1) (e := 1) (n := 16) (a := y_) rfl rfl (by decide)
      have ch_ : f_J4_charAt_5068e hx 33 (nI i_) = some (hx, nI S_.2.2.2.2[i_]) := by
        unfold f_J4_charAt_5068e f_J5_charAt_5068e
        rw [ckO_of (show sd 1 33 = true from rfl) (show kdOf hx 33 = 1 from rfl), ckO_of (show sd 1 33 = true from rfl) (show kdOf hx 33 = 1 from rfl), nm_eq, ckO_of (show sd 1 33 = true from rfl) (show kdOf hx 33 = 1 from rfl), ckO_of (show sd 1 33 = true from rfl) (show kdOf hx 33 = 1 from rfl), (hA _).1, (hA none).2, c1_, c3_, nm_eq]
        have mn_ : mnI (nI S_.2.2.2.2.length) (Int32.ofNat 16 >>> ((0 : Int32) &&& 31)) = nI S_.2.2.2.2.length := by
          unfold mnI
          rw [if_neg]
          exact nI_nlt (a := 16) (by omega) (by decide)
        have ci : f_J0_checkIndex_df160 hx (nI i_) (nI S_.2.2.2.2.length) = some () := by
          unfold f_J0_checkIndex_df160 f_J3_checkIndex_8e157
          rw [if_neg (nI_pos (by omega)), if_pos (nI_lt h_ (by omega))]; rfl
        rw [mn_, bnr_of ci, if_pos rfl, (hA _).1, chk_of (vp_in_nI (n := i_) (N := 16) (by omega) (by decide)), nI_clamp (n := i_) (by omega), show aI hx (33 + 1) i_ = nI S_.2.2.2.2[i_] from e1_, byte_ch _ hb_, ckH_of (by omega), bnd_of rfl, ckH_of (by omega)]
      rw [bnd_of ch_]
      exact ⟨_, rfl, rfl⟩
    · rw [if_neg (nI_nlt (by omega) (by omega)), if_neg (nI_nlt (by omega) (by omega))]
      exact ⟨_, rfl, rfl⟩
  · rw [if_pos hx0, if_pos rfl]
    by_cases h0 : a_ < 0
    · rw [if_pos h0]; exact ⟨_, rfl, rfl⟩
    · rw [if_neg h0, if_neg (show ¬ a_ < (20 : Int32) from lt_of_no hx0 h0)]; exact ⟨_, rfl, rfl⟩
