-- ===== calls: saying, can_, when =====
theorem rdI_0 : rdI 0 = -5 := rfl
theorem rdI_s (i_ : Nat) : rdI (i_ + 1) = nI i_ := by unfold rdI; rw [if_neg (by omega)]; rfl
def sayQ (σ : scn) (p_ w_ s_ : Nat) : Bool := decide (showsS σ p_ (sV σ p_) (sH σ) s_ = sW σ w_)
theorem X_saying_lp {hx0 : hp} {S_ : sst} (hX0 : RX hx0 S_) (hok : SOK S_) {p_ w_ : Nat} {what : Int32} (hp : p_ < sp S_.1) (hw : w_ < sn S_.1) : ∀ m_ k_ n_ hx f_ c_, scrX hx0 hx → k_ + m_ = 1024 → m_ < n_ → c_ ≤ k_ → f_ ≤ k_ → ∃ hx', f_X11_saying_48 n_ hx (nI p_) what (nI (sW S_.1 w_)) (rdI f_) (nI c_) (nI k_) = some (hx', if what = 0 then rdI (lp (upG (sayQ S_.1 p_ w_)) k_ m_ (f_, c_)).1 else nI (lp (upG (sayQ S_.1 p_ w_)) k_ m_ (f_, c_)).2) ∧ scrX hx0 hx' := by
  have hws := hok.1.1.1.2 w_ hw
  intro m_
  induction m_ with
  | zero =>
    intro k_ n_ hx f_ c_ sx h1 h2 hc_ hf
    obtain ⟨n_, rfl⟩ : ∃ j_, n_ = j_ + 1 := ⟨n_ - 1, by omega⟩
    refine ⟨hx, ?_, sx⟩
    unfold f_X11_saying_48 f_X11_saying_102
    rw [if_neg (show ¬ nI k_ < (1024 : Int32) from nI_nlt (b := 1024) (by omega) (by omega))]
    show _ = some (hx, if what = 0 then rdI f_ else nI c_)
    split <;> rfl
  | succ m_ ih_ =>
    intro k_ n_ hx f_ c_ sx h1 h2 hc_ hf
    obtain ⟨n_, rfl⟩ : ∃ j_, n_ = j_ + 1 := ⟨n_ - 1, by omega⟩
    have hX := RX_scr sx hX0
    obtain ⟨hx', y1, y2⟩ := X_shownNow hX.1.1 hok.1.1 hp (show k_ < 1024 by omega)
    have hv := (hok.1.1.2.1.2 p_ hp).2.1
    have hlt := showsS_lt (t := sH S_.1) hok.1.1 hp hv (show k_ < 1024 by omega)
    rw [f_X11_saying_48, if_pos (show nI k_ < (1024 : Int32) from nI_lt (b := 1024) (by omega) (by decide)), bnd_of y1]
    unfold f_X11_saying_80 f_X11_saying_85
    show ∃ hx', _ = some (hx', if what = 0 then rdI (lp (upG (sayQ S_.1 p_ w_)) (k_ + 1) m_ (upG (sayQ S_.1 p_ w_) k_ (f_, c_))).1 else nI (lp (upG (sayQ S_.1 p_ w_)) (k_ + 1) m_ (upG (sayQ S_.1 p_ w_) k_ (f_, c_))).2) ∧ _
    by_cases hq : showsS S_.1 p_ (sV S_.1 p_) (sH S_.1) k_ = sW S_.1 w_
    · have eq1 : upG (sayQ S_.1 p_ w_) k_ (f_, c_) = (if c_ = 0 then k_ + 1 else f_, c_ + 1) := by unfold upG sayQ; rw [decide_eq_true hq, if_pos rfl]
      rw [if_pos (show nI (showsS S_.1 p_ (sV S_.1 p_) (sH S_.1) k_) = nI (sW S_.1 w_) by rw [hq]), eq1]
      by_cases c0_ : c_ = 0
      · rw [if_pos (show nI c_ = 0 by rw [c0_]; rfl), if_pos c0_, nm_eq, nm_eq, nI_1, nI_1, ← rdI_s k_]
        exact ih_ (k_ + 1) n_ hx' (k_ + 1) (c_ + 1) (sx.tr y2) (by omega) (by omega) (by omega) (by omega)
      · rw [if_neg (show ¬ nI c_ = 0 from nI_ne0 (by omega) (by omega)), if_neg c0_, nm_eq, nm_eq, nI_1, nI_1]
        exact ih_ (k_ + 1) n_ hx' f_ (c_ + 1) (sx.tr y2) (by omega) (by omega) (by omega) (by omega)
    · have eq1 : upG (sayQ S_.1 p_ w_) k_ (f_, c_) = (f_, c_) := by unfold upG sayQ; rw [decide_eq_false hq, if_neg (by decide)]
      rw [if_neg (fun z_ => hq ((nI_eq (by omega) (by omega)).mp z_)), eq1, nm_eq, nI_1]
      exact ih_ (k_ + 1) n_ hx' f_ c_ (sx.tr y2) (by omega) (by omega) (by omega) (by omega)
theorem cntQ_s (Q_ : Nat → Bool) (i_ k_ : Nat) : cntQ Q_ i_ (k_ + 1) = (if Q_ i_ then 1 else 0) + cntQ Q_ (i_ + 1) k_ := rfl
theorem fstQ_s (Q_ : Nat → Bool) (i_ k_ : Nat) : fstQ Q_ i_ (k_ + 1) = if Q_ i_ then i_ + 1 else fstQ Q_ (i_ + 1) k_ := rfl
theorem M_saying_lp {hm0 : hp} {S_ : sst} (hM0 : RM hm0 S_) (hok : SOK S_) {p_ w_ : Nat} {what : Int32} (hp : p_ < sp S_.1) (hw : w_ < sn S_.1) : ∀ j_ n_ hm_, scrM hm0 hm_ → j_ ≤ 1024 → j_ < n_ → ∃ hm', f_X12_saying_40 n_ hm_ (nI p_) (nI w_) what (nI (cntQ (sayQ S_.1 p_ w_) j_ (1024 - j_))) (rdI (fstQ (sayQ S_.1 p_ w_) j_ (1024 - j_))) (nI j_ - 1) = some (hm', if what = 0 then rdI (fstQ (sayQ S_.1 p_ w_) 0 1024) else nI (cntQ (sayQ S_.1 p_ w_) 0 1024)) ∧ scrM hm0 hm' := by
  have hn8 := hok.1.1.1.1
  have hws := hok.1.1.1.2 w_ hw
  intro j_
  induction j_ with
  | zero =>
    intro n_ hm_ sm_ h1 h2
    obtain ⟨n_, rfl⟩ : ∃ z_, n_ = z_ + 1 := ⟨n_ - 1, by omega⟩
    refine ⟨hm_, ?_, sm_⟩
    unfold f_X12_saying_40 f_X12_saying_88
    rw [if_pos (show nI 0 - 1 < 0 by decide)]
    split <;> rfl
  | succ j_ ih_ =>
    intro n_ hm_ sm_ h1 h2
    obtain ⟨n_, rfl⟩ : ∃ z_, n_ = z_ + 1 := ⟨n_ - 1, by omega⟩
    have hM_ := RM_scr sm_ hM0
    obtain ⟨hm', y1, y2⟩ := M_showsOf hM_.1 hok.1.1 hp (show j_ < 1024 by omega)
    have hM' := RM_scr (sm_.tr y2) hM0
    have hv := (hok.1.1.2.1.2 p_ hp).2.1
    have hlt := showsS_lt (t := sH S_.1) hok.1.1 hp hv (show j_ < 1024 by omega)
    have hc_ := cntQ_le (sayQ S_.1 p_ w_) (1024 - (j_ + 1)) (j_ + 1)
    have e0_ : nI j_ + (-1 : Int32) = nI j_ - 1 := by
      apply Int32.toBitVec_inj.mp
      show (nI j_).toBitVec + (-1 : Int32).toBitVec = (nI j_).toBitVec - (1 : Int32).toBitVec
      rw [BitVec.sub_eq_add_neg]; rfl
    have e1_ : 1024 - j_ = (1024 - (j_ + 1)) + 1 := by omega
    have ih2 := ih_ n_ hm' (sm_.tr y2) (by omega) (by omega)
    rw [e1_, cntQ_s, fstQ_s] at ih2
    rw [f_X12_saying_40, nI_pred, if_neg (nI_pos (by omega)), bnd_of y1, chk_of (vp_in_nI (n := w_) (N := 8) (by omega) (by decide)), nI_clamp (n := w_) (by omega), show aI hm' 53 w_ = nI (sW S_.1 w_) from hM'.1.1.2 w_ hw]
    unfold f_X12_saying_71
    by_cases hq : showsS S_.1 p_ (sV S_.1 p_) (sH S_.1) j_ = sW S_.1 w_
    · have q1_ : sayQ S_.1 p_ w_ j_ = true := decide_eq_true hq
      rw [if_pos (show nI (showsS S_.1 p_ (sV S_.1 p_) (sH S_.1) j_) = nI (sW S_.1 w_) by rw [hq]), nm_eq, nm_eq, nI_1, e0_, ← rdI_s j_]
      rw [if_pos q1_, if_pos q1_, Nat.add_comm 1] at ih2
      exact ih2
    · have q1_ : ¬ sayQ S_.1 p_ w_ j_ = true := fun h_ => hq (of_decide_eq_true h_)
      rw [if_neg (fun z_ => hq ((nI_eq (by omega) (by omega)).mp z_)), nm_eq, e0_]
      rw [if_neg q1_, if_neg q1_, Nat.zero_add] at ih2
      exact ih2
theorem s_saying {hx hm_ : hp} (H_ : Sim hx hm_) (a_ b_ c_ : Int32) : ∃ hx' hm' r_, f_X11_saying hx a_ b_ c_ = some (hx', r_) ∧ f_X12_saying hm_ a_ b_ c_ = some (hm', r_) ∧ Sim hx' hm' := by
  have H0 := H_
  obtain ⟨S_, hX, hM_, hok, ht⟩ := H_
  have e0_ : hI hm_ 52 1 = nI (sp S_.1) := hM_.1.2.1.1
  have e1_ : hI hm_ 52 0 = nI (sn S_.1) := hM_.1.1.1
  have hp5 := hok.1.1.2.1.1
  have hn8 := hok.1.1.1.1
  unfold f_X11_saying f_X12_saying f_X11_saying_23 f_X12_saying_26
  rw [bnr_of (X_isSender hX.1.1 hok.1.1), bnr_of (M_isSender e0_ (by omega)), bnr_of (X_isWord hX.1.1 hok.1.1), bnr_of (M_isWord e1_ (by omega)), bnr_of X_isPart, bnr_of (M_in0 (n := 2) (by decide) (by decide))]
  rcases arg_split a_ (sp S_.1) (by omega) with ⟨p_, hp, rfl⟩ | hx0
  · rw [if_neg (arg_no hp (by omega)), if_neg ne10, if_neg ne10]
    rcases arg_split b_ (sn S_.1) (by omega) with ⟨w_, hw, rfl⟩ | hx1
    · rw [if_neg (arg_no hw (by omega)), if_neg ne10, if_neg ne10]
      rcases arg_split c_ 2 (by decide) with ⟨z_, hz, rfl⟩ | hx2
      · rw [if_neg (arg_no hz (by decide)), if_neg ne10, if_neg ne10, bnr_of (X_get hX.1.1 hok.1.1 hw)]
        obtain ⟨hx', y1, y2⟩ := X_saying_lp (what := nI z_) hX hok hp hw 1024 0 2000 hx 0 0 scrX.rf rfl (by decide) (Nat.le_refl _) (Nat.le_refl _)
        obtain ⟨hm', z1, z2⟩ := M_saying_lp (what := nI z_) hM_ hok hp hw 1024 2000 hm_ scrM.rf (Nat.le_refl _) (by decide)
        rw [upG_all] at y1
        exact ⟨hx', hm', _, y1, z1, Sim_scr y2 z2 H0⟩
      · rw [if_pos hx2, if_pos rfl, if_pos rfl]
        exact ⟨hx, hm_, _, rfl, rfl, H0⟩
    · rw [if_pos hx1, if_pos rfl, if_pos rfl]
      exact ⟨hx, hm_, _, rfl, rfl, H0⟩
  · rw [if_pos hx0, if_pos rfl, if_pos rfl]
    exact ⟨hx, hm_, _, rfl, rfl, H0⟩
/-- were v_ its digit and t_ the hour, all_ that is_ seen_ fits_ -/
def fitQ (σ : scn) (p_ v_ t_ : Nat) : Nat → Nat → Bool
  | _, 0 => true
  | k_, m_ + 1 => if showsS σ p_ v_ t_ (sW σ (σ.2.2.2.1.2.1 k_)) = σ.2.2.2.1.2.2 k_ then fitQ σ p_ v_ t_ (k_ + 1) m_ else false
def fitA (σ : scn) (p_ v_ t_ : Nat) : Bool := fitQ σ p_ v_ t_ 0 σ.2.2.2.1.1
theorem X_fits_lp {hx0 : hp} {S_ : sst} (hX0 : RX hx0 S_) (hok : SOK S_) {p_ v_ t_ : Nat} (hp : p_ < sp S_.1) (hv : v_ < 10) (ht : t_ < 2 ^ 31) : ∀ m_ k_ n_ hx, scrX hx0 hx → k_ + m_ = S_.1.2.2.2.1.1 → m_ < n_ → ∃ hx', f_X11_fitsSeen_3 n_ hx (nI p_) (nI v_) (nI t_) (nI k_) = some (hx', b01 (fitQ S_.1 p_ v_ t_ k_ m_)) ∧ scrX hx0 hx' := by
  have hn8 := hok.1.1.1.1
  have h5 := hok.1.1.2.2.2.1.1
  intro m_
  induction m_ with
  | zero =>
    intro k_ n_ hx sx h1 h2
    obtain ⟨n_, rfl⟩ : ∃ j_, n_ = j_ + 1 := ⟨n_ - 1, by omega⟩
    have e1_ : hI hx 7 1 = nI S_.1.2.2.2.1.1 := (RX_scr sx hX0).1.1.2.2.2.1.1
    rw [f_X11_fitsSeen_3, e1_, if_neg (nI_nlt (by omega) (by omega))]
    exact ⟨hx, rfl, sx⟩
  | succ m_ ih_ =>
    intro k_ n_ hx sx h1 h2
    obtain ⟨n_, rfl⟩ : ∃ j_, n_ = j_ + 1 := ⟨n_ - 1, by omega⟩
    have hX := RX_scr sx hX0
    have hk : k_ < S_.1.2.2.2.1.1 := by omega
    have e1_ : hI hx 7 1 = nI S_.1.2.2.2.1.1 := hX.1.1.2.2.2.1.1
    obtain ⟨w1_, w2_⟩ := hok.1.1.2.2.2.1.2 k_ hk
    have g3_ : aI hx (7 + 1) k_ = nI (S_.1.2.2.2.1.2.1 k_ * 1024 + S_.1.2.2.2.1.2.2 k_) := hX.1.1.2.2.2.1.2 k_ hk
    have g4 : aI hx (2 + 1) (S_.1.2.2.2.1.2.1 k_) = nI (sW S_.1 (S_.1.2.2.2.1.2.1 k_)) := hX.1.1.1.2 _ w1_
    have hws := hok.1.1.1.2 _ w1_
    obtain ⟨hx', y1, y2⟩ := X_shown hX.1.1 hok.1.1 hp hv ht hws
    have hlt := showsS_lt (t := t_) hok.1.1 hp hv hws
    rw [f_X11_fitsSeen_3, e1_, if_pos (nI_lt hk (by omega)), bnr_of (X2_get (rwX_seen hX.1.1 hok.1.1) hk), g3_, nz_of (by decide), div1024 (by omega) w2_, bnr_of (X2_get (rwX_words hX.1.1 hok.1.1) w1_), g4, bnd_of y1, nz_of (by decide), rem1024b]
    show ∃ hx', _ = some (hx', b01 (if showsS S_.1 p_ v_ t_ (sW S_.1 (S_.1.2.2.2.1.2.1 k_)) = S_.1.2.2.2.1.2.2 k_ then fitQ S_.1 p_ v_ t_ (k_ + 1) m_ else false)) ∧ _
    by_cases hq : showsS S_.1 p_ v_ t_ (sW S_.1 (S_.1.2.2.2.1.2.1 k_)) = S_.1.2.2.2.1.2.2 k_
    · rw [if_pos (by rw [hq]), if_pos hq, nm_eq, nI_1]
      exact ih_ (k_ + 1) n_ hx' (sx.tr y2) (by omega) (by omega)
    · rw [if_neg (fun z_ => hq ((nI_eq (by omega) (by omega)).mp z_)), if_neg hq]
      exact ⟨hx', rfl, sx.tr y2⟩
theorem X_fits {hx : hp} {S_ : sst} (hX : RX hx S_) (hok : SOK S_) {p_ v_ t_ : Nat} (hp : p_ < sp S_.1) (hv : v_ < 10) (ht : t_ < 2 ^ 31) : ∃ hx', f_X11_fitsSeen hx (nI p_) (nI v_) (nI t_) = some (hx', b01 (fitA S_.1 p_ v_ t_)) ∧ scrX hx hx' := X_fits_lp hX hok hp hv ht _ 0 2000 hx scrX.rf (Nat.zero_add _) (by have := hok.1.1.2.2.2.1.1; omega)
theorem M_fits_lp {hm0 : hp} {σ : scn} (hM0 : scM1 hm0 σ) (hok : scOK σ) {p_ : Nat} (hp : p_ < sp σ) : ∀ m_ k_ n_ hm_, scrM hm0 hm_ → k_ + m_ = σ.2.2.2.1.1 → m_ < n_ → ∃ hm', f_X12_isSeen_2 n_ hm_ (nI p_) (nI k_) = some (hm', b01 (fitQ σ p_ (sV σ p_) (sH σ) k_ m_)) ∧ scrM hm0 hm' := by
  have hn8 := hok.1.1
  have h5 := hok.2.2.2.1.1
  intro m_
  induction m_ with
  | zero =>
    intro k_ n_ hm_ sm_ h1 h2
    obtain ⟨n_, rfl⟩ : ∃ j_, n_ = j_ + 1 := ⟨n_ - 1, by omega⟩
    have e1_ : hI hm_ 52 29 = nI σ.2.2.2.1.1 := (scM1_scr sm_ hM0).2.2.2.1.1
    rw [f_X12_isSeen_2, e1_, if_neg (nI_nlt (by omega) (by omega))]
    exact ⟨hm_, rfl, sm_⟩
  | succ m_ ih_ =>
    intro k_ n_ hm_ sm_ h1 h2
    obtain ⟨n_, rfl⟩ : ∃ j_, n_ = j_ + 1 := ⟨n_ - 1, by omega⟩
    have hM_ := scM1_scr sm_ hM0
    have hk : k_ < σ.2.2.2.1.1 := by omega
    have e1_ : hI hm_ 52 29 = nI σ.2.2.2.1.1 := hM_.2.2.2.1.1
    obtain ⟨w1_, w2_⟩ := hok.2.2.2.1.2 k_ hk
    obtain ⟨g1, g2⟩ := hM_.2.2.2.1.2 k_ hk
    have hws := hok.1.2 _ w1_
    obtain ⟨hm', y1, y2⟩ := M_showsOf hM_ hok hp hws
    have hlt := showsS_lt (t := sH σ) hok hp (hok.2.1.2 p_ hp).2.1 hws
    have g2' : aI hm' 72 k_ = nI (σ.2.2.2.1.2.2 k_) := by rw [y2.2.2.1 72 (by decide) (by decide) (by decide) (by decide)]; exact g2
    have ck : vp_in (nI k_) 5 := vp_in_nI (by omega) (by decide)
    rw [f_X12_isSeen_2, e1_, if_pos (nI_lt hk (by omega)), chk_of ck, nI_clamp (n := k_) (by omega), show aI hm_ 71 k_ = nI (σ.2.2.2.1.2.1 k_) from g1, chk_of (vp_in_nI (n := σ.2.2.2.1.2.1 k_) (N := 8) (by omega) (by decide)), nI_clamp (n := σ.2.2.2.1.2.1 k_) (by omega), show aI hm_ 53 (σ.2.2.2.1.2.1 k_) = nI (sW σ (σ.2.2.2.1.2.1 k_)) from hM_.1.2 _ w1_, bnd_of y1, chk_of ck, g2']
    show ∃ hm', _ = some (hm', b01 (if showsS σ p_ (sV σ p_) (sH σ) (sW σ (σ.2.2.2.1.2.1 k_)) = σ.2.2.2.1.2.2 k_ then fitQ σ p_ (sV σ p_) (sH σ) (k_ + 1) m_ else false)) ∧ _
    by_cases hq : showsS σ p_ (sV σ p_) (sH σ) (sW σ (σ.2.2.2.1.2.1 k_)) = σ.2.2.2.1.2.2 k_
    · rw [if_pos (by rw [hq]), if_pos hq, nm_eq, nI_1]
      exact ih_ (k_ + 1) n_ hm' (sm_.tr y2) (by omega) (by omega)
    · rw [if_neg (fun z_ => hq ((nI_eq (by omega) (by omega)).mp z_)), if_neg hq]
      exact ⟨hm', rfl, sm_.tr y2⟩
theorem M_fits {hm_ : hp} {σ : scn} (hM_ : scM1 hm_ σ) (hok : scOK σ) {p_ : Nat} (hp : p_ < sp σ) : ∃ hm', f_X12_isSeen hm_ (nI p_) = some (hm', b01 (fitA σ p_ (sV σ p_) (sH σ))) ∧ scrM hm_ hm' := M_fits_lp hM_ hok hp _ 0 2000 hm_ scrM.rf (Nat.zero_add _) (by have := hok.2.2.2.1.1; omega)
def setV (σ : scn) (p_ v_ : Nat) : scn := (σ.1, (sp σ, sK' σ, (fun k_ => if k_ = p_ then v_ else sV σ k_), sS σ, sRw σ), σ.2.2)
theorem fitQ_V {σ : scn} {p_ v_ u_ t_ : Nat} : ∀ m_ k_, fitQ (setV σ p_ u_) p_ v_ t_ k_ m_ = fitQ σ p_ v_ t_ k_ m_ := by
  intro m_
  induction m_ with
  | zero => intro k_; rfl
  | succ m_ ih_ =>
    intro k_
    show (if showsS σ p_ v_ t_ (sW σ (σ.2.2.2.1.2.1 k_)) = σ.2.2.2.1.2.2 k_ then fitQ (setV σ p_ u_) p_ v_ t_ (k_ + 1) m_ else false) = if showsS σ p_ v_ t_ (sW σ (σ.2.2.2.1.2.1 k_)) = σ.2.2.2.1.2.2 k_ then fitQ σ p_ v_ t_ (k_ + 1) m_ else false
    rw [ih_]
theorem fitQ_H {σ : scn} {p_ v_ u_ t_ : Nat} : ∀ m_ k_, fitQ (setH σ u_) p_ v_ t_ k_ m_ = fitQ σ p_ v_ t_ k_ m_ := by
  intro m_
  induction m_ with
  | zero => intro k_; rfl
  | succ m_ ih_ =>
    intro k_
    show (if showsS σ p_ v_ t_ (sW σ (σ.2.2.2.1.2.1 k_)) = σ.2.2.2.1.2.2 k_ then fitQ (setH σ u_) p_ v_ t_ (k_ + 1) m_ else false) = if showsS σ p_ v_ t_ (sW σ (σ.2.2.2.1.2.1 k_)) = σ.2.2.2.1.2.2 k_ then fitQ σ p_ v_ t_ (k_ + 1) m_ else false
    rw [ih_]
theorem X_can_lp {hx0 : hp} {S_ : sst} (hX0 : RX hx0 S_) (hok : SOK S_) {p_ : Nat} {what : Int32} (hp : p_ < sp S_.1) : ∀ m_ k_ n_ hx f_ c_, scrX hx0 hx → k_ + m_ = 10 → m_ < n_ → c_ ≤ k_ → f_ ≤ k_ → ∃ hx', f_X11_can_26 n_ hx (nI p_) what (rdI f_) (nI c_) (nI k_) = some (hx', if what = 0 then nI (lp (upG (fun v_ => fitA S_.1 p_ v_ (sH S_.1))) k_ m_ (f_, c_)).2 else rdI (lp (upG (fun v_ => fitA S_.1 p_ v_ (sH S_.1))) k_ m_ (f_, c_)).1) ∧ scrX hx0 hx' := by
  have hH := hok.1.2
  intro m_
  induction m_ with
  | zero =>
    intro k_ n_ hx f_ c_ sx h1 h2 hc_ hf
    obtain ⟨n_, rfl⟩ : ∃ j_, n_ = j_ + 1 := ⟨n_ - 1, by omega⟩
    refine ⟨hx, ?_, sx⟩
    unfold f_X11_can_26 f_X11_can_81
    rw [if_neg (show ¬ nI k_ < (10 : Int32) from nI_nlt (b := 10) (by omega) (by omega))]
    show _ = some (hx, if what = 0 then nI c_ else rdI f_)
    split <;> rfl
  | succ m_ ih_ =>
    intro k_ n_ hx f_ c_ sx h1 h2 hc_ hf
    obtain ⟨n_, rfl⟩ : ∃ j_, n_ = j_ + 1 := ⟨n_ - 1, by omega⟩
    have hX := RX_scr sx hX0
    have e3_ : hI hx 1 5 = nI (sH S_.1) := hX.1.1.2.2.1
    obtain ⟨hx', y1, y2⟩ := X_fits hX hok hp (v_ := k_) (t_ := sH S_.1) (by omega) (by omega)
    rw [f_X11_can_26, if_pos (show nI k_ < (10 : Int32) from nI_lt (b := 10) (by omega) (by decide)), e3_, bnd_of y1]
    unfold f_X11_can_61 f_X11_can_65
    show ∃ hx', _ = some (hx', if what = 0 then nI (lp (upG (fun v_ => fitA S_.1 p_ v_ (sH S_.1))) (k_ + 1) m_ (upG (fun v_ => fitA S_.1 p_ v_ (sH S_.1)) k_ (f_, c_))).2 else rdI (lp (upG (fun v_ => fitA S_.1 p_ v_ (sH S_.1))) (k_ + 1) m_ (upG (fun v_ => fitA S_.1 p_ v_ (sH S_.1)) k_ (f_, c_))).1) ∧ _
    cases hq : fitA S_.1 p_ k_ (sH S_.1) with
    | true =>
      have eq1 : upG (fun v_ => fitA S_.1 p_ v_ (sH S_.1)) k_ (f_, c_) = (if c_ = 0 then k_ + 1 else f_, c_ + 1) := by unfold upG; rw [if_pos hq]
      rw [if_neg (show ¬ b01 true = 0 by decide), eq1]
      by_cases c0_ : c_ = 0
      · rw [if_pos (show nI c_ = 0 by rw [c0_]; rfl), if_pos c0_, nm_eq, nm_eq, nI_1, nI_1, ← rdI_s k_]
        exact ih_ (k_ + 1) n_ hx' (k_ + 1) (c_ + 1) (sx.tr y2) (by omega) (by omega) (by omega) (by omega)
      · rw [if_neg (show ¬ nI c_ = 0 from nI_ne0 (by omega) (by omega)), if_neg c0_, nm_eq, nm_eq, nI_1, nI_1]
        exact ih_ (k_ + 1) n_ hx' f_ (c_ + 1) (sx.tr y2) (by omega) (by omega) (by omega) (by omega)
    | false =>
      have eq1 : upG (fun v_ => fitA S_.1 p_ v_ (sH S_.1)) k_ (f_, c_) = (f_, c_) := by unfold upG; rw [if_neg (show ¬ fitA S_.1 p_ k_ (sH S_.1) = true by rw [hq]; decide)]
      rw [if_pos (show b01 false = 0 from rfl), eq1, nm_eq, nI_1]
      exact ih_ (k_ + 1) n_ hx' f_ c_ (sx.tr y2) (by omega) (by omega) (by omega) (by omega)
theorem X_when_lp {hx0 : hp} {S_ : sst} (hX0 : RX hx0 S_) (hok : SOK S_) {p_ : Nat} {what : Int32} (hp : p_ < sp S_.1) : ∀ m_ k_ n_ hx f_ c_, scrX hx0 hx → k_ + m_ = 24 → m_ < n_ → c_ ≤ k_ → f_ ≤ k_ → ∃ hx', f_X11_when_26 n_ hx (nI p_) what (rdI f_) (nI c_) (nI k_) = some (hx', if what = 0 then nI (lp (upG (fun k_ => fitA S_.1 p_ (sV S_.1 p_) (sH S_.1 + k_))) k_ m_ (f_, c_)).2 else rdI (lp (upG (fun k_ => fitA S_.1 p_ (sV S_.1 p_) (sH S_.1 + k_))) k_ m_ (f_, c_)).1) ∧ scrX hx0 hx' := by
  have hH := hok.1.2
  have hp5 := hok.1.1.2.1.1
  have hv := (hok.1.1.2.1.2 p_ hp).2.1
  intro m_
  induction m_ with
  | zero =>
    intro k_ n_ hx f_ c_ sx h1 h2 hc_ hf
    obtain ⟨n_, rfl⟩ : ∃ j_, n_ = j_ + 1 := ⟨n_ - 1, by omega⟩
    refine ⟨hx, ?_, sx⟩
    unfold f_X11_when_26 f_X11_when_94
    rw [if_neg (show ¬ nI k_ < (24 : Int32) from nI_nlt (b := 24) (by omega) (by omega))]
    show _ = some (hx, if what = 0 then nI c_ else rdI f_)
    split <;> rfl
  | succ m_ ih_ =>
    intro k_ n_ hx f_ c_ sx h1 h2 hc_ hf
    obtain ⟨n_, rfl⟩ : ∃ j_, n_ = j_ + 1 := ⟨n_ - 1, by omega⟩
    have hX := RX_scr sx hX0
    have e3_ : hI hx 1 5 = nI (sH S_.1) := hX.1.1.2.2.1
    obtain ⟨o, ho, hs⟩ := hX.1.1.2.1.2.1 p_ hp
    have hS_ : kdOf hx o ∈ sndK := by rw [hs.2.2.1]; exact sndQ_in
    obtain ⟨hx', y1, y2⟩ := X_fits hX hok hp (t_ := sH S_.1 + k_) hv (by omega)
    rw [f_X11_when_26, if_pos (show nI k_ < (24 : Int32) from nI_lt (b := 24) (by omega) (by decide)), chk_of (vp_in_nI (n := p_) (N := 5) (by omega) (by decide)), nI_clamp (n := p_) (by omega), onO_of (show aR hx 4 p_ = some o from ho), ckS_of hs.1 hS_, show hI hx o 2 = nI (sV S_.1 p_) from hs.2.2.2.2.2, e3_, nI_add, bnd_of y1]
    unfold f_X11_when_74 f_X11_when_78
    show ∃ hx', _ = some (hx', if what = 0 then nI (lp (upG (fun k_ => fitA S_.1 p_ (sV S_.1 p_) (sH S_.1 + k_))) (k_ + 1) m_ (upG (fun k_ => fitA S_.1 p_ (sV S_.1 p_) (sH S_.1 + k_)) k_ (f_, c_))).2 else rdI (lp (upG (fun k_ => fitA S_.1 p_ (sV S_.1 p_) (sH S_.1 + k_))) (k_ + 1) m_ (upG (fun k_ => fitA S_.1 p_ (sV S_.1 p_) (sH S_.1 + k_)) k_ (f_, c_))).1) ∧ _
    cases hq : fitA S_.1 p_ (sV S_.1 p_) (sH S_.1 + k_) with
    | true =>
      have eq1 : upG (fun k_ => fitA S_.1 p_ (sV S_.1 p_) (sH S_.1 + k_)) k_ (f_, c_) = (if c_ = 0 then k_ + 1 else f_, c_ + 1) := by unfold upG; rw [if_pos hq]
      rw [if_neg (show ¬ b01 true = 0 by decide), eq1]
      by_cases c0_ : c_ = 0
      · rw [if_pos (show nI c_ = 0 by rw [c0_]; rfl), if_pos c0_, nm_eq, nm_eq, nI_1, nI_1, ← rdI_s k_]
        exact ih_ (k_ + 1) n_ hx' (k_ + 1) (c_ + 1) (sx.tr y2) (by omega) (by omega) (by omega) (by omega)
      · rw [if_neg (show ¬ nI c_ = 0 from nI_ne0 (by omega) (by omega)), if_neg c0_, nm_eq, nm_eq, nI_1, nI_1]
        exact ih_ (k_ + 1) n_ hx' f_ (c_ + 1) (sx.tr y2) (by omega) (by omega) (by omega) (by omega)
    | false =>
      have eq1 : upG (fun k_ => fitA S_.1 p_ (sV S_.1 p_) (sH S_.1 + k_)) k_ (f_, c_) = (f_, c_) := by unfold upG; rw [if_neg (show ¬ fitA S_.1 p_ (sV S_.1 p_) (sH S_.1 + k_) = true by rw [hq]; decide)]
      rw [if_pos (show b01 false = 0 from rfl), eq1, nm_eq, nI_1]
      exact ih_ (k_ + 1) n_ hx' f_ c_ (sx.tr y2) (by omega) (by omega) (by omega) (by omega)
theorem m1_sub (j_ : Nat) : nI j_ + (-1 : Int32) = nI j_ - 1 := by
  apply Int32.toBitVec_inj.mp
  show (nI j_).toBitVec + (-1 : Int32).toBitVec = (nI j_).toBitVec - (1 : Int32).toBitVec
  rw [BitVec.sub_eq_add_neg]; rfl
theorem scrM_tI5 {h0 h_ : hp} {p_ : Nat} {a_ b_ : Int32} (x_ : scrM (tI h0 55 p_ a_) h_) : scrM (tI h0 55 p_ b_) (tI h_ 55 p_ b_) := by
  obtain ⟨x1_, x2_, x3, x4_, x5_⟩ := x_
  refine ⟨x1_, x2_, fun i_ g1 g2 g3_ g4 => ?_, x4_, x5_⟩
  funext k_
  rw [aI_tI, aI_tI]
  have := congrFun (x3 i_ g1 g2 g3_ g4) k_
  rw [aI_tI] at this
  rw [this]
  split
  · rfl
  · rfl
theorem scrM_bk5 {h0 h_ : hp} {p_ : Nat} {a_ b_ : Int32} (hb_ : aI h0 55 p_ = b_) (x_ : scrM (tI h0 55 p_ a_) h_) : scrM h0 (tI h_ 55 p_ b_) := by
  obtain ⟨x1_, x2_, x3, x4_, x5_⟩ := scrM_tI5 (b_ := b_) x_
  refine ⟨x1_, x2_, fun i_ g1 g2 g3_ g4 => ?_, x4_, x5_⟩
  rw [x3 i_ g1 g2 g3_ g4]
  funext k_
  rw [aI_tI]
  split
  · rename_i hc_
    rw [hc_.1, hc_.2]; exact hb_.symm
  · rfl
theorem scM1_v {h_ : hp} {σ : scn} {p_ v_ : Nat} (H_ : scM1 h_ σ) : scM1 (tI h_ 55 p_ (nI v_)) (setV σ p_ v_) := by
  refine ⟨H_.1, ⟨H_.2.1.1, fun q_ hq => ?_⟩, H_.2.2⟩
  obtain ⟨u1_, u2_, u3, u4_⟩ := H_.2.1.2 q_ hq
  refine ⟨u1_, ?_, u3, u4_⟩
  show (if 55 = 55 ∧ q_ = p_ then nI v_ else aI h_ 55 q_) = nI (if q_ = p_ then v_ else sV σ q_)
  by_cases e_ : q_ = p_
  · rw [if_pos ⟨rfl, e_⟩, if_pos e_]
  · rw [if_neg (by rintro ⟨-, hh⟩; exact e_ hh), if_neg e_]; exact u2_
theorem scOK_v {σ : scn} {p_ v_ : Nat} (H_ : scOK σ) (hv : v_ < 10) : scOK (setV σ p_ v_) := by
  refine ⟨H_.1, ⟨H_.2.1.1, fun q_ hq => ?_⟩, H_.2.2⟩
  obtain ⟨u1_, u2_, u3, u4_⟩ := H_.2.1.2 q_ hq
  refine ⟨u1_, ?_, u3, u4_⟩
  show (if q_ = p_ then v_ else sV σ q_) < 10
  split <;> omega
