-- ===== calls: counts, meanings, shows, say_, rows_ told_ by hand_ =====
theorem s_count {hx hm_ : hp} (H_ : Sim hx hm_) (a_ : Int32) : ∃ r_, f_X11_count hx a_ = some r_ ∧ f_X12_count hm_ a_ = some r_ := by
  obtain ⟨S_, hX, hM_, hok, ht⟩ := H_
  have x0_ : hI hx 1 2 = nI (sp S_.1) := hX.1.1.2.1.1
  have x1_ : hI hx 2 1 = nI (sn S_.1) := hX.1.1.1.1
  have x2_ : hI hx 0 5 = nI S_.2.2.1 := hX.2.2.1
  have x3 : hI hx 7 1 = nI S_.1.2.2.2.1.1 := hX.1.1.2.2.2.1.1
  have x4_ : hI hx 9 1 = nI S_.1.2.2.2.2.1.1 := hX.1.1.2.2.2.2.1.1
  have x5_ : hI hx 11 1 = nI S_.1.2.2.2.2.2.1.1 := hX.1.1.2.2.2.2.2.1.1
  have x6 : hI hx 25 1 = nI S_.2.2.2.1.1 := hX.2.2.2.1.1
  have x7 : hI hx 33 3 = nI S_.2.2.2.2.length := hX.2.2.2.2.2.1.2.1
  have m0_ : hI hm_ 52 1 = nI (sp S_.1) := hM_.1.2.1.1
  have m1_ : hI hm_ 52 0 = nI (sn S_.1) := hM_.1.1.1
  have m2_ : hI hm_ 52 8 = nI S_.2.2.1 := hM_.2.2.1
  have m3_ : hI hm_ 52 29 = nI S_.1.2.2.2.1.1 := hM_.1.2.2.2.1.1
  have m4_ : hI hm_ 52 32 = nI S_.1.2.2.2.2.1.1 := hM_.1.2.2.2.2.1.1
  have m5_ : hI hm_ 52 33 = nI S_.1.2.2.2.2.2.1.1 := hM_.1.2.2.2.2.2.1.1
  have m6_ : hI hm_ 52 10 = nI S_.2.2.2.1.1 := hM_.2.2.2.1.1
  have m7_ : hI hm_ 52 55 = nI S_.2.2.2.2.length := hM_.2.2.2.2.2.1
  have x8 : f_J4_length_8abf5 hx 33 = some (nI S_.2.2.2.2.length) := by
    unfold f_J4_length_8abf5 f_J5_length_8abf5
    rw [ckO_of (show sd 1 33 = true from rfl) (show kdOf hx 33 = 1 from rfl), ckO_of (show sd 1 33 = true from rfl) (show kdOf hx 33 = 1 from rfl), x7]; rfl
  unfold f_X11_count f_X12_count
  rw [x0_, x1_, x2_, x3, x4_, x5_, x6, bnr_of x8, m0_, m1_, m2_, m3_, m4_, m5_, m6_, m7_]
  have key_ : ∀ z_ : Option Int32, (∃ r_, z_ = some r_) → ∃ r_, z_ = some r_ ∧ z_ = some r_ := fun z_ ⟨r_, hz⟩ => ⟨r_, hz, hz⟩
  refine key_ _ ?_
  repeat' split
  all_goals exact ⟨_, rfl⟩
theorem s_meaning {hx hm_ : hp} (H_ : Sim hx hm_) (a_ : Int32) : ∃ r_, f_X11_meaning hx a_ = some r_ ∧ f_X12_meaning hm_ a_ = some r_ := by
  obtain ⟨S_, hX, hM_, hok, ht⟩ := H_
  unfold f_X11_meaning f_X12_meaning f_X11_meaning_17 f_X12_meaning_18
  rw [bnr_of X_isSign, bnr_of M_isSign]
  rcases arg_split a_ 1024 (by decide) with ⟨s_, hs, rfl⟩ | hx0
  · rw [if_neg (arg_no hs (by decide)), if_neg ne10, if_neg ne10, bnr_of (X_readAs hX.1.1 hok.1.1 hs), bnr_of (M_readOf hM_.1 hok.1.1 hs)]
    exact ⟨_, rfl, rfl⟩
  · rw [if_pos hx0, if_pos rfl, if_pos rfl]
    exact ⟨_, rfl, rfl⟩
/-- both_ show the same_ -/
theorem XM_show {hx hm_ : hp} {S_ : sst} (hX : RX hx S_) (hM_ : RM hm_ S_) (hok : SOK S_) {p_ s_ : Nat} (hp : p_ < sp S_.1) (hs : s_ < 1024) : ∃ hx' hm' v_, v_ < 1024 ∧ f_X11_shownNow hx (nI p_) (nI s_) = some (hx', nI v_) ∧ f_X12_showsOf hm_ (nI p_) (nI s_) = some (hm', nI v_) ∧ scrX hx hx' ∧ scrM hm_ hm' ∧ v_ = showsS S_.1 p_ (sV S_.1 p_) (sH S_.1) s_ := by
  obtain ⟨hx', x1_, x2_⟩ := X_shownNow hX.1.1 hok.1.1 hp hs
  obtain ⟨hm', m1_, m2_⟩ := M_showsOf hM_.1 hok.1.1 hp hs
  exact ⟨hx', hm', _, showsS_lt hok.1.1 hp (hok.1.1.2.1.2 p_ hp).2.1 hs, x1_, m1_, x2_, m2_, rfl⟩
theorem s_shows {hx hm_ : hp} (H_ : Sim hx hm_) (a_ b_ : Int32) : ∃ hx' hm' r_, f_X11_shows hx a_ b_ = some (hx', r_) ∧ f_X12_shows hm_ a_ b_ = some (hm', r_) ∧ Sim hx' hm' := by
  have H0 := H_
  obtain ⟨S_, hX, hM_, hok, ht⟩ := H_
  have e0_ : hI hm_ 52 1 = nI (sp S_.1) := hM_.1.2.1.1
  have hp5 := hok.1.1.2.1.1
  unfold f_X11_shows f_X12_shows f_X11_shows_28 f_X12_shows_29
  rw [bnr_of (X_isSender hX.1.1 hok.1.1), bnr_of (M_isSender e0_ (by omega)), bnr_of X_isSign, bnr_of M_isSign]
  rcases arg_split a_ (sp S_.1) (by omega) with ⟨p_, hp, rfl⟩ | hx0
  · rw [if_neg (arg_no hp (by omega)), if_neg ne10, if_neg ne10]
    rcases arg_split b_ 1024 (by decide) with ⟨s_, hs, rfl⟩ | hx1
    · obtain ⟨hx', hm', v_, -, x1_, m1_, x2_, m2_, -⟩ := XM_show hX hM_ hok hp hs
      rw [if_neg (arg_no hs (by decide)), if_neg ne10, if_neg ne10, bnd_of x1_, bnd_of m1_]
      exact ⟨hx', hm', _, rfl, rfl, Sim_scr x2_ m2_ H0⟩
    · rw [if_pos hx1, if_pos rfl, if_pos rfl]
      exact ⟨hx, hm_, _, rfl, rfl, H0⟩
  · rw [if_pos hx0, if_pos rfl, if_pos rfl]
    exact ⟨hx, hm_, _, rfl, rfl, H0⟩
theorem s_say {hx hm_ : hp} (H_ : Sim hx hm_) (a_ b_ : Int32) : ∃ hx' hm' r_, f_X11_say hx a_ b_ = some (hx', r_) ∧ f_X12_say hm_ a_ b_ = some (hm', r_) ∧ Sim hx' hm' := by
  have H0 := H_
  obtain ⟨S_, hX, hM_, hok, ht⟩ := H_
  have e0_ : hI hm_ 52 1 = nI (sp S_.1) := hM_.1.2.1.1
  have e1_ : hI hm_ 52 0 = nI (sn S_.1) := hM_.1.1.1
  have hp5 := hok.1.1.2.1.1
  have hn8 := hok.1.1.1.1
  unfold f_X11_say f_X12_say f_X11_say_16 f_X12_say_16
  rw [bnr_of (X_isSender hX.1.1 hok.1.1), bnr_of (M_isSender e0_ (by omega)), bnr_of (X_isWord hX.1.1 hok.1.1), bnr_of (M_isWord e1_ (by omega))]
  rcases arg_split a_ (sp S_.1) (by omega) with ⟨p_, hp, rfl⟩ | hx0
  · rw [if_neg (arg_no hp (by omega)), if_neg ne10, if_neg ne10]
    rcases arg_split b_ (sn S_.1) (by omega) with ⟨w_, hw, rfl⟩ | hx1
    · rw [if_neg (arg_no hw (by omega)), if_neg ne10, if_neg ne10]
      have hin : vp_in (nI p_) 5 := vp_in_nI (by omega) (by decide)
      have hcp : (nI p_).toNatClampNeg = p_ := nI_clamp (by omega)
      have hS9 := (hok.1.1.2.1.2 p_ hp).2.2.1
      have q5_ : aI hx 5 p_ = nI (sS S_.1 p_) := by
        have := hX.1.1.2.1.2.2.1 p_ (by omega)
        rw [if_pos hp] at this; exact this
      have m5_ : aI hm_ 56 p_ = nI (sS S_.1 p_) := (hM_.1.2.1.2 p_ hp).2.2.1
      rw [chk_of hin, chk_of hin, hcp, q5_, m5_]
      by_cases h9 : sS S_.1 p_ = 9999
      · rw [if_neg (show ¬ nI (sS S_.1 p_) < (9999 : Int32) by rw [h9]; decide), if_pos (show nI (sS S_.1 p_) = (9999 : Int32) by rw [h9]; rfl)]
        exact ⟨hx, hm_, _, rfl, rfl, H0⟩
      · have hs : sW S_.1 w_ < 1024 := hok.1.1.1.2 w_ hw
        obtain ⟨hx', hm', v_, hv, x1_, m1_, x2_, m2_, -⟩ := XM_show hX hM_ hok hp hs
        have hX' := RX_scr x2_ hX
        have hM' := RM_scr m2_ hM_
        rw [if_pos (show nI (sS S_.1 p_) < (9999 : Int32) from nI_lt (b := 9999) (by omega) (by decide)), if_neg (show ¬ nI (sS S_.1 p_) = (9999 : Int32) from fun z_ => h9 ((nI_eq (b := 9999) (by omega) (by decide)).mp z_)), bnr_of (X_get hX.1.1 hok.1.1 hw), bnd_of x1_, bnr_of (X_readAs hX'.1.1 hok.1.1 hv), chk_of hin, chk_of hin, nm_eq, chk_of (vp_in_nI (n := w_) (N := 8) (by omega) (by decide)), nI_clamp (n := w_) (by omega), show aI hm_ 53 w_ = nI (sW S_.1 w_) from hM_.1.1.2 w_ hw, bnd_of m1_, bnr_of (M_readOf hM'.1 hok.1.1 hv), chk_of hin, chk_of hin, nm_eq]
        have q5' : aI hx' 5 p_ = nI (sS S_.1 p_) := by
          have := hX'.1.1.2.1.2.2.1 p_ (by omega)
          rw [if_pos hp] at this; exact this
        have m5' : aI hm' 56 p_ = nI (sS S_.1 p_) := (hM'.1.2.1.2 p_ hp).2.2.1
        rw [q5', m5', nI_1]
        have x_ : agX (fun a_ => a_ = 5) hx' (tI hx' 5 p_ (nI (sS S_.1 p_ + 1))) := agX_tI rfl
        refine ⟨_, _, _, rfl, rfl, (setS S_.1 p_ (sS S_.1 p_ + 1), S_.2), ?_, ?_, ?_, ?_⟩
        · refine RX_now x_ (fun a_ ha_ => by omega) rfl ⟨?_, hX'.1.2⟩ hX'
          obtain ⟨⟨u1_, u2_, u3, u4_, u5, u6, u7⟩, -⟩ := hX'.1
          refine ⟨u1_, ⟨u2_.1, fun p' hp' => ?_, fun i_ hi_ => ?_, u2_.2.2.2⟩, u3, u4_, u5, u6, wardX_ag (σ := S_.1) x_ (fun a_ ha_ => by omega) rfl u7⟩
          · obtain ⟨o', ho', hs'⟩ := u2_.2.1 p' hp'
            have := hs'.2.1
            exact ⟨o', ho', sndX_ag' ⟨x_.kd o', (x_.2 o' (by omega)).1⟩ hs'⟩
          · show (if 5 = 5 ∧ i_ = p_ then nI (sS S_.1 p_ + 1) else aI hx' 5 i_) = nI (if i_ < sp S_.1 then (if i_ = p_ then sS S_.1 p_ + 1 else sS S_.1 i_) else 0)
            by_cases e_ : i_ = p_
            · rw [if_pos ⟨rfl, e_⟩, if_pos (by omega), if_pos e_]
            · rw [if_neg (by rintro ⟨-, h_⟩; exact e_ h_), if_neg e_]; exact u2_.2.2.1 i_ hi_
        · refine ⟨⟨hM'.1.1, ⟨hM'.1.2.1.1, fun p' hp' => ?_⟩, hM'.1.2.2⟩, hM'.2⟩
          obtain ⟨u1_, u2_, u3, u4_⟩ := hM'.1.2.1.2 p' hp'
          refine ⟨u1_, u2_, ?_, u4_⟩
          show (if 56 = 56 ∧ p' = p_ then nI (sS S_.1 p_ + 1) else aI hm' 56 p') = nI (if p' = p_ then sS S_.1 p_ + 1 else sS S_.1 p')
          by_cases e_ : p' = p_
          · rw [if_pos ⟨rfl, e_⟩, if_pos e_]
          · rw [if_neg (by rintro ⟨-, h_⟩; exact e_ h_), if_neg e_]; exact u3
        · refine ⟨⟨⟨hok.1.1.1, ⟨hp5, fun p' hp' => ?_⟩, hok.1.1.2.2⟩, hok.1.2⟩, hok.2⟩
          obtain ⟨u1_, u2_, u3, u4_⟩ := hok.1.1.2.1.2 p' hp'
          refine ⟨u1_, u2_, ?_, u4_⟩
          show (if p' = p_ then sS S_.1 p_ + 1 else sS S_.1 p') ≤ 9999
          split <;> omega
        · exact TP_now x_ (fun a_ ha_ => by omega) (by funext b_; rfl) (by funext b_; rfl) (by funext b_; rfl) (TP_scr x2_ m2_ ht)
    · rw [if_pos hx1, if_pos rfl, if_pos rfl]
      exact ⟨hx, hm_, _, rfl, rfl, H0⟩
  · rw [if_pos hx0, if_pos rfl, if_pos rfl]
    exact ⟨hx, hm_, _, rfl, rfl, H0⟩
/-- all_ but the text, the trace stays -/
theorem RX_out {P_ : Nat → Prop} {h_ h' : hp} {S_ : sst} {tx : Nat × (Nat → Nat)} {tt : List Nat} (x_ : agX P_ h_ h') (hP : ∀ a_, P_ a_ → 25 ≤ a_ ∧ a_ < 100 ∧ ¬ (27 ≤ a_ ∧ a_ ≤ 31)) (H_ : RX h_ S_) (h1 : hI h' 25 1 = nI tx.1 ∧ ∀ k_, k_ < tx.1 → aI h' 26 k_ = nI (tx.2 k_)) (h2 : hI h' 33 1 = 0 ∧ hI h' 33 3 = nI tt.length ∧ ∀ i_ b_, tt[i_]? = some b_ → aI h' 34 i_ = nI b_) : RX h' (S_.1, S_.2.1, S_.2.2.1, tx, tt) := by
  have e_ := fun a_ (hn : a_ < 25) => x_.2 a_ (fun hc_ => by have := hP a_ hc_; omega)
  obtain ⟨⟨q1_, q1'⟩, q2_, q3_, q4_, q5_, q6_, q7_⟩ := H_
  exact ⟨⟨scX_ag x_ (fun a_ ha_ => by have := hP a_ ha_; omega) q1_, by rw [(e_ 4 (by omega)).2.2.2.2]; exact q1'⟩, tkX_ag (S := S_) x_ (fun a_ ha_ => by have := hP a_ ha_; omega) (by rw [(e_ 0 (by omega)).1]) q2_, by rw [(e_ 0 (by omega)).1]; exact q3_, h1, spX_ag x_.kd (by rw [(e_ 0 (by omega)).2.1]) (by rw [(e_ 1 (by omega)).2.1]) (by rw [(e_ 13 (by omega)).2.1]) q5_, h2, nid_ag x_.1 q7_⟩
theorem s_feed {hx hm_ : hp} (H_ : Sim hx hm_) (a_ : Int32) : ∃ hx' hm' r_, f_X11_feed hx a_ = some (hx', r_) ∧ f_X12_feed hm_ a_ = some (hm', r_) ∧ Sim hx' hm' := by
  have H0 := H_
  obtain ⟨S_, hX, hM_, hok, ht⟩ := H_
  have e0_ : hI hm_ 52 10 = nI S_.2.2.2.1.1 := hM_.2.2.2.1.1
  have h100 := hok.2.2.2.1.1
  unfold f_X11_feed f_X12_feed f_X11_feed_10 f_X11_feed_36
  rw [bnr_of (M_in0 (n := 128) (by decide) (by decide))]
  rcases arg_split a_ 128 (by decide) with ⟨s_, hs, rfl⟩ | hx0
  · rw [if_neg (arg_no hs (by decide)), if_neg ne10, if_neg (nI_pos (by omega)), if_neg (show ¬ (127 : Int32) < nI s_ from nI_nlt (a := 127) (by omega) (by decide)), bnr_of (X2_isFull (rwX_text hX hok)), e0_]
    by_cases hc_ : S_.2.2.2.1.1 < 100
    · rw [if_pos hc_, if_pos rfl, bnd_of (X2_add (rwX_text hX hok) hc_), if_neg (show ¬ nI S_.2.2.2.1.1 = (100 : Int32) from fun z_ => by have := (nI_eq (b := 100) (by omega) (by decide)).mp z_; omega), chk_of (vp_in_nI (n := S_.2.2.2.1.1) (N := 100) hc_ (by decide)), nm_eq, nI_clamp (by omega), hI_tI, e0_, nI_1, nm_eq, hI_sI, if_pos ⟨rfl, rfl⟩]
      have x_ : agX (fun a_ => a_ = 25 ∨ a_ = 26) hx (sI (tI hx (25 + 1) S_.2.2.2.1.1 (nI s_)) 25 1 (nI (S_.2.2.2.1.1 + 1))) := (agX_tI (by omega)).tr (agX_sI (by omega))
      refine ⟨_, _, _, rfl, rfl, (S_.1, S_.2.1, S_.2.2.1, (S_.2.2.2.1.1 + 1, fun k_ => if k_ = S_.2.2.2.1.1 then s_ else S_.2.2.2.1.2 k_), S_.2.2.2.2), ?_, ?_, ?_, ?_⟩
      · refine RX_out x_ (fun a_ ha_ => by omega) hX ⟨rfl, fun k_ hk => ?_⟩ hX.2.2.2.2.2.1
        show (if 26 = 26 ∧ k_ = S_.2.2.2.1.1 then nI s_ else aI hx 26 k_) = nI (if k_ = S_.2.2.2.1.1 then s_ else S_.2.2.2.1.2 k_)
        by_cases e_ : k_ = S_.2.2.2.1.1
        · rw [if_pos ⟨rfl, e_⟩, if_pos e_]
        · rw [if_neg (by rintro ⟨-, h_⟩; exact e_ h_), if_neg e_]
          have : k_ < S_.2.2.2.1.1 + 1 := hk
          exact hX.2.2.2.1.2 k_ (by omega)
      · refine ⟨hM_.1, hM_.2.1, hM_.2.2.1, ⟨rfl, fun k_ hk => ?_⟩, hM_.2.2.2.2⟩
        show (if 58 = 58 ∧ k_ = S_.2.2.2.1.1 then nI s_ else aI hm_ 58 k_) = nI (if k_ = S_.2.2.2.1.1 then s_ else S_.2.2.2.1.2 k_)
        by_cases e_ : k_ = S_.2.2.2.1.1
        · rw [if_pos ⟨rfl, e_⟩, if_pos e_]
        · rw [if_neg (by rintro ⟨-, h_⟩; exact e_ h_), if_neg e_]
          have : k_ < S_.2.2.2.1.1 + 1 := hk
          exact hM_.2.2.2.1.2 k_ (by omega)
      · refine ⟨hok.1, hok.2.1, hok.2.2.1, ⟨hc_, fun k_ hk => ?_⟩, hok.2.2.2.2⟩
        show (if k_ = S_.2.2.2.1.1 then s_ else S_.2.2.2.1.2 k_) < 128
        have : k_ < S_.2.2.2.1.1 + 1 := hk
        split
        · exact hs
        · exact hok.2.2.2.1.2 k_ (by omega)
      · exact TP_ag x_ (fun a_ ha_ => by omega) (by funext b_; rfl) (by funext b_; rfl) (by funext b_; rfl) ht
    · rw [if_neg hc_, if_neg ne10, if_pos (show nI S_.2.2.2.1.1 = (100 : Int32) by rw [show S_.2.2.2.1.1 = 100 by omega]; rfl)]
      exact ⟨hx, hm_, _, rfl, rfl, H0⟩
  · rw [if_pos hx0, if_pos rfl]
    by_cases h0 : a_ < 0
    · rw [if_pos h0]; exact ⟨hx, hm_, _, rfl, rfl, H0⟩
    · rw [if_neg h0, if_pos (by
        have := lt_of_no hx0 h0
        have h5 : (127 : Int32).toInt = 127 := rfl
        have h6 := nI_toInt (n := 128) (by decide)
        rw [Int32.lt_iff_toInt_lt] at this ⊢
        omega)]; exact ⟨hx, hm_, _, rfl, rfl, H0⟩
def setSe (σ : scn) (v_ : Nat × (Nat → Nat) × (Nat → Nat)) : scn := (σ.1, σ.2.1, σ.2.2.1, v_, σ.2.2.2.2)
def setRe (σ : scn) (v_ : Nat × (Nat → Nat)) : scn := (σ.1, σ.2.1, σ.2.2.1, σ.2.2.2.1, v_, σ.2.2.2.2.2)
def setBo (σ : scn) (v_ : Nat × (Nat → Nat) × (Nat → Nat)) : scn := (σ.1, σ.2.1, σ.2.2.1, σ.2.2.2.1, σ.2.2.2.2.1, v_, σ.2.2.2.2.2.2)
def snoc2 (v_ : Nat × (Nat → Nat) × (Nat → Nat)) (w_ s_ : Nat) : Nat × (Nat → Nat) × (Nat → Nat) := (v_.1 + 1, (fun k_ => if k_ = v_.1 then w_ else v_.2.1 k_), fun k_ => if k_ = v_.1 then s_ else v_.2.2 k_)
theorem snoc_I {f_ : Nat → Int32} {g_ : Nat → Nat} {n_ v_ : Nat} (h_ : ∀ k_, k_ < n_ → f_ k_ = nI (g_ k_)) : ∀ k_, k_ < n_ + 1 → (if k_ = n_ then nI v_ else f_ k_) = nI (if k_ = n_ then v_ else g_ k_) := by
  intro k_ hk
  by_cases e_ : k_ = n_
  · rw [if_pos e_, if_pos e_]
  · rw [if_neg e_, if_neg e_]; exact h_ k_ (by omega)
