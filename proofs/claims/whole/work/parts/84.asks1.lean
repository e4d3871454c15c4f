-- ===== calls: what comes through, hours, who shows, what is_ meant =====
theorem scrM_sI2 {h0 h_ : hp} {a_ b_ : Int32} (x_ : scrM (sI h0 52 2 a_) h_) : scrM (sI h0 52 2 b_) (sI h_ 52 2 b_) := by
  obtain ⟨x1_, x2_, x3, x4_, x5_⟩ := x_
  refine ⟨?_, x2_, x3, x4_, x5_⟩
  show up2 h_.1 52 2 b_ = up2 h0.1 52 2 b_
  rw [x1_]
  funext i_ k_
  show (if i_ = 52 ∧ k_ = 2 then b_ else if i_ = 52 ∧ k_ = 2 then a_ else h0.1 i_ k_) = if i_ = 52 ∧ k_ = 2 then b_ else h0.1 i_ k_
  split <;> rfl
theorem scrM_bk {h0 h_ : hp} {a_ b_ : Int32} (hb_ : hI h0 52 2 = b_) (x_ : scrM (sI h0 52 2 a_) h_) : scrM h0 (sI h_ 52 2 b_) := by
  obtain ⟨x1_, x2_, x3, x4_, x5_⟩ := scrM_sI2 (b_ := b_) x_
  refine ⟨?_, x2_, x3, x4_, x5_⟩
  rw [x1_]
  funext i_ k_
  show (if i_ = 52 ∧ k_ = 2 then b_ else h0.1 i_ k_) = h0.1 i_ k_
  split
  · rename_i hc_
    rw [hc_.1, hc_.2]; exact hb_.symm
  · rfl
theorem scM1_hr {h_ : hp} {σ : scn} {t_ : Nat} (H_ : scM1 h_ σ) : scM1 (sI h_ 52 2 (nI t_)) (setH σ t_) := ⟨H_.1, H_.2.1, rfl, H_.2.2.2⟩
theorem scOK_hr {σ : scn} {t_ : Nat} (H_ : scOK σ) (ht : t_ ≤ 20000) : scOK (setH σ t_) := ⟨H_.1, H_.2.1, ht, H_.2.2.2⟩
theorem rdI_is {r_ w_ : Nat} (hr : r_ ≤ 8) (hw : w_ < 8) : rdI r_ = nI w_ ↔ r_ = w_ + 1 := by
  unfold rdI
  by_cases h0 : r_ = 0
  · rw [if_pos h0]
    constructor
    · intro z_
      have := congrArg Int32.toInt z_
      rw [nI_toInt (by omega)] at this
      have h1 : ((-5 : Int32)).toInt = -5 := rfl
      omega
    · intro z_; omega
  · rw [if_neg h0, nI_eq (by omega) (by omega)]; omega
theorem readG_le {σ : scn} {s_ : Nat} : ∀ m_ i_ a_, a_.1 ≤ i_ → (lp (readG σ s_) i_ m_ a_).1 ≤ i_ + m_ := by
  intro m_
  induction m_ with
  | zero => intro i_ a_ ha_; exact ha_
  | succ m_ ih_ =>
    intro i_ a_ ha_
    show (lp (readG σ s_) (i_ + 1) m_ (readG σ s_ i_ a_)).1 ≤ i_ + (m_ + 1)
    have := ih_ (i_ + 1) (readG σ s_ i_ a_) (by
      unfold readG
      split
      · exact Nat.le_refl _
      · omega)
    omega
theorem readS_le {σ : scn} {s_ : Nat} : readS σ s_ ≤ sn σ := by
  have := readG_le (σ := σ) (s_ := s_) (sn σ) 0 (0, nearS σ + 1) (Nat.le_refl _)
  unfold readS
  omega
def comQ (σ : scn) (p_ w_ t_ : Nat) : Bool := decide (readS σ (showsS σ p_ (sV σ p_) t_ (sW σ w_)) = w_ + 1)
theorem b01_if {c_ : Prop} [Decidable c_] {q_ : Bool} (h_ : c_ ↔ q_ = true) : (if c_ then (1 : Int32) else 0) = b01 q_ := by
  by_cases hc_ : c_
  · rw [if_pos hc_, h_.mp hc_]; rfl
  · rw [if_neg hc_]
    cases q_ with
    | false => rfl
    | true => exact absurd (h_.mpr rfl) hc_
theorem X_comes {h_ : hp} {σ : scn} (hsc : scX h_ 1 σ) (hok : scOK σ) {p_ w_ t_ : Nat} (hp : p_ < sp σ) (hw : w_ < sn σ) (ht : t_ < 2 ^ 31) : ∃ h', f_X11_comes h_ (nI p_) (nI w_) (nI t_) = some (h', b01 (comQ σ p_ w_ t_)) ∧ scrX h_ h' := by
  have hp5 := hok.2.1.1
  have hn8 := hok.1.1
  obtain ⟨o, ho, hs⟩ := hsc.2.1.2.1 p_ hp
  have hS_ : kdOf h_ o ∈ sndK := by rw [hs.2.2.1]; exact sndQ_in
  have hv := (hok.2.1.2 p_ hp).2.1
  have hws := hok.1.2 w_ hw
  obtain ⟨h', x1_, x2_⟩ := X_shown hsc hok hp hv ht hws
  have hlt := showsS_lt (t := t_) hok hp hv hws
  refine ⟨h', ?_, x2_⟩
  unfold f_X11_comes f_X11_comes_42
  rw [chk_of (vp_in_nI (n := p_) (N := 5) (by omega) (by decide)), nI_clamp (n := p_) (by omega), onO_of (show aR h_ 4 p_ = some o from ho), ckS_of hs.1 hS_, bnr_of (X_get hsc hok hw), show hI h_ o 2 = nI (sV σ p_) from hs.2.2.2.2.2, bnd_of x1_]
  have hsc' : scX h' 1 σ := scX_ag (agX_scr x2_) (fun a_ ha_ => by omega) hsc
  rw [bnr_of (X_readAs hsc' hok hlt)]
  have hr := readS_le (σ := σ) (s_ := showsS σ p_ (sV σ p_) t_ (sW σ w_))
  unfold comQ
  by_cases hq : readS σ (showsS σ p_ (sV σ p_) t_ (sW σ w_)) = w_ + 1
  · rw [if_pos ((rdI_is (by omega) (by omega)).mpr hq), decide_eq_true hq]; rfl
  · rw [if_neg (fun z_ => hq ((rdI_is (by omega) (by omega)).mp z_)), decide_eq_false hq]; rfl
theorem M_through1 {h_ : hp} {σ : scn} (hsc : scM1 h_ σ) (hok : scOK σ) {p_ w_ : Nat} (hp : p_ < sp σ) (hw : w_ < sn σ) : ∃ h', f_X12_isThrough h_ (nI p_) (nI w_) = some (h', b01 (comQ σ p_ w_ (sH σ))) ∧ scrM h_ h' := by
  have hp5 := hok.2.1.1
  have hn8 := hok.1.1
  have hv := (hok.2.1.2 p_ hp).2.1
  have hws := hok.1.2 w_ hw
  obtain ⟨h', x1_, x2_⟩ := M_showsOf hsc hok hp hws
  have hlt := showsS_lt (t := sH σ) hok hp hv hws
  refine ⟨h', ?_, x2_⟩
  unfold f_X12_isThrough f_X12_isThrough_24
  rw [chk_of (vp_in_nI (n := w_) (N := 8) (by omega) (by decide)), nI_clamp (n := w_) (by omega), show aI h_ 53 w_ = nI (sW σ w_) from hsc.1.2 w_ hw, bnd_of x1_, bnr_of (M_readOf (scM1_scr x2_ hsc) hok hlt)]
  have hr := readS_le (σ := σ) (s_ := showsS σ p_ (sV σ p_) (sH σ) (sW σ w_))
  unfold comQ
  by_cases hq : readS σ (showsS σ p_ (sV σ p_) (sH σ) (sW σ w_)) = w_ + 1
  · rw [if_pos ((rdI_is (by omega) (by omega)).mpr hq), decide_eq_true hq]; rfl
  · rw [if_neg (fun z_ => hq ((rdI_is (by omega) (by omega)).mp z_)), decide_eq_false hq]; rfl
theorem b01_ne {q_ : Bool} : (b01 q_ = 0) ↔ q_ = false := by cases q_ <;> decide
theorem through_lp {hx0 hm0 : hp} {S_ : sst} (hX0 : RX hx0 S_) (hM0 : RM hm0 S_) (hok : SOK S_) {p_ : Nat} (hp : p_ < sp S_.1) : ∀ m_ k_ n_ hx hm_ acc, scrX hx0 hx → scrM hm0 hm_ → k_ + m_ = sn S_.1 → m_ < n_ → ∃ hx' hm' r_, f_X11_wordsThrough_4 n_ hx (nI p_) acc (nI k_) = some (hx', r_) ∧ f_X12_through_4 n_ hm_ (nI p_) acc (nI k_) = some (hm', r_) ∧ scrX hx0 hx' ∧ scrM hm0 hm' := by
  have hn8 := hok.1.1.1.1
  have hH := hok.1.2
  intro m_
  induction m_ with
  | zero =>
    intro k_ n_ hx hm_ acc sx sm_ h1 h2
    obtain ⟨n_, rfl⟩ : ∃ j_, n_ = j_ + 1 := ⟨n_ - 1, by omega⟩
    have e1_ : hI hx 2 1 = nI (sn S_.1) := (RX_scr sx hX0).1.1.1.1
    have e2_ : hI hm_ 52 0 = nI (sn S_.1) := (RM_scr sm_ hM0).1.1.1
    have e_ : ¬ nI k_ < nI (sn S_.1) := nI_nlt (by omega) (by omega)
    rw [f_X11_wordsThrough_4, f_X12_through_4, e1_, e2_, if_neg e_, if_neg e_]
    exact ⟨hx, hm_, _, rfl, rfl, sx, sm_⟩
  | succ m_ ih_ =>
    intro k_ n_ hx hm_ acc sx sm_ h1 h2
    obtain ⟨n_, rfl⟩ : ∃ j_, n_ = j_ + 1 := ⟨n_ - 1, by omega⟩
    have hX := RX_scr sx hX0
    have hM_ := RM_scr sm_ hM0
    have e1_ : hI hx 2 1 = nI (sn S_.1) := hX.1.1.1.1
    have e2_ : hI hm_ 52 0 = nI (sn S_.1) := hM_.1.1.1
    have e3_ : hI hx 1 5 = nI (sH S_.1) := hX.1.1.2.2.1
    have e_ : nI k_ < nI (sn S_.1) := nI_lt (by omega) (by omega)
    obtain ⟨hx', y1, y2⟩ := X_comes hX.1.1 hok.1.1 hp (w_ := k_) (t_ := sH S_.1) (by omega) (by omega)
    obtain ⟨hm', z1, z2⟩ := M_through1 hM_.1 hok.1.1 hp (w_ := k_) (by omega)
    rw [f_X11_wordsThrough_4, f_X12_through_4, e1_, e2_, if_pos e_, if_pos e_, e3_, bnd_of y1, bnd_of z1]
    unfold f_X11_wordsThrough_40 f_X12_through_29
    cases comQ S_.1 p_ k_ (sH S_.1) with
    | false =>
      rw [if_pos (show b01 false = 0 from rfl), if_pos (show b01 false = 0 from rfl), nm_eq, nm_eq, nm_eq, or_0, nI_1]
      exact ih_ (k_ + 1) n_ hx' hm' acc (sx.tr y2) (sm_.tr z2) (by omega) (by omega)
    | true =>
      rw [if_neg (show ¬ b01 true = 0 by decide), if_neg (show ¬ b01 true = 0 by decide), nm_eq, nm_eq, nm_eq, nm_eq, nI_1]
      exact ih_ (k_ + 1) n_ hx' hm' _ (sx.tr y2) (sm_.tr z2) (by omega) (by omega)
theorem hours_lp {hx0 hm0 : hp} {S_ : sst} (hX0 : RX hx0 S_) (hM0 : RM hm0 S_) (hok : SOK S_) {p_ w_ : Nat} (hp : p_ < sp S_.1) (hw : w_ < sn S_.1) : ∀ m_ k_ n_ hx hm_ acc, scrX hx0 hx → scrM (sI hm0 52 2 (nI (sH S_.1 + k_))) hm_ → k_ + m_ = 24 → m_ < n_ → ∃ hx' hm' r_, f_X11_hours_23 n_ hx (nI p_) (nI w_) acc (nI k_) = some (hx', r_) ∧ f_X12_hours_23 n_ hm_ (nI p_) (nI w_) acc (nI k_) = some (hm', r_) ∧ scrX hx0 hx' ∧ scrM hm0 hm' := by
  have hn8 := hok.1.1.1.1
  have hH := hok.1.2
  have b0 : hI hm0 52 2 = nI (sH S_.1) := hM0.1.2.2.1
  intro m_
  induction m_ with
  | zero =>
    intro k_ n_ hx hm_ acc sx sm_ h1 h2
    obtain ⟨n_, rfl⟩ : ∃ j_, n_ = j_ + 1 := ⟨n_ - 1, by omega⟩
    have e_ : ¬ nI k_ < (24 : Int32) := nI_nlt (b := 24) (by omega) (by omega)
    have eh : hI hm_ 52 2 = nI (sH S_.1 + k_) := by show hm_.1 52 2 = _; rw [sm_.1]; rfl
    have es : nI (sH S_.1 + k_) - (24 : Int32) = nI (sH S_.1) := by rw [show (24 : Int32) = nI 24 from rfl, pk_sub (by omega)]; exact congrArg nI (by omega)
    rw [f_X11_hours_23, f_X12_hours_23, if_neg e_, if_neg e_, eh, es, nm_eq]
    exact ⟨hx, _, _, rfl, rfl, sx, scrM_bk b0 sm_⟩
  | succ m_ ih_ =>
    intro k_ n_ hx hm_ acc sx sm_ h1 h2
    obtain ⟨n_, rfl⟩ : ∃ j_, n_ = j_ + 1 := ⟨n_ - 1, by omega⟩
    have hX := RX_scr sx hX0
    have hM_ : scM1 hm_ (setH S_.1 (sH S_.1 + k_)) := scM1_scr sm_ (scM1_hr hM0.1)
    have e3_ : hI hx 1 5 = nI (sH S_.1) := hX.1.1.2.2.1
    have e_ : nI k_ < (24 : Int32) := nI_lt (b := 24) (by omega) (by decide)
    obtain ⟨hx', y1, y2⟩ := X_comes hX.1.1 hok.1.1 hp hw (t_ := sH S_.1 + k_) (by omega)
    obtain ⟨hm', z1, z2⟩ := M_through1 hM_ (scOK_hr hok.1.1 (by omega)) hp hw
    have z1 : f_X12_isThrough hm_ (nI p_) (nI w_) = some (hm', b01 (comQ S_.1 p_ w_ (sH S_.1 + k_))) := z1
    have sm' := sm_.tr z2
    have eh : hI hm' 52 2 = nI (sH S_.1 + k_) := by show hm'.1 52 2 = _; rw [sm'.1]; rfl
    rw [f_X11_hours_23, f_X12_hours_23, if_pos e_, if_pos e_, e3_, nI_add, bnd_of y1, bnd_of z1]
    unfold f_X11_hours_56 f_X12_hours_48
    have nx2_ : scrM (sI hm0 52 2 (nI (sH S_.1 + (k_ + 1)))) (sI hm' 52 2 (nI (sH S_.1 + k_ + 1))) := scrM_sI2 (b_ := nI (sH S_.1 + (k_ + 1))) sm'
    cases comQ S_.1 p_ w_ (sH S_.1 + k_) with
    | false =>
      rw [if_pos (show b01 false = 0 from rfl), if_pos (show b01 false = 0 from rfl), nm_eq, nm_eq, nm_eq, nm_eq, or_0, eh, nI_1, nI_1]
      exact ih_ (k_ + 1) n_ hx' _ acc (sx.tr y2) nx2_ (by omega) (by omega)
    | true =>
      rw [if_neg (show ¬ b01 true = 0 by decide), if_neg (show ¬ b01 true = 0 by decide), nm_eq, nm_eq, nm_eq, nm_eq, nm_eq, eh, nI_1, nI_1]
      exact ih_ (k_ + 1) n_ hx' _ _ (sx.tr y2) nx2_ (by omega) (by omega)
theorem scrM_self {h_ : hp} {b_ : Int32} (hb_ : hI h_ 52 2 = b_) : scrM (sI h_ 52 2 b_) h_ := by
  refine ⟨?_, rfl, fun _ _ _ _ _ => rfl, fun _ _ => rfl, rfl⟩
  funext i_ k_
  show h_.1 i_ k_ = if i_ = 52 ∧ k_ = 2 then b_ else h_.1 i_ k_
  split
  · rename_i hc_
    rw [hc_.1, hc_.2]; exact hb_
  · rfl
theorem s_hours {hx hm_ : hp} (H_ : Sim hx hm_) (a_ b_ : Int32) : ∃ hx' hm' r_, f_X11_hours hx a_ b_ = some (hx', r_) ∧ f_X12_hours hm_ a_ b_ = some (hm', r_) ∧ Sim hx' hm' := by
  have H0 := H_
  obtain ⟨S_, hX, hM_, hok, ht⟩ := H_
  have e0_ : hI hm_ 52 1 = nI (sp S_.1) := hM_.1.2.1.1
  have e1_ : hI hm_ 52 0 = nI (sn S_.1) := hM_.1.1.1
  have hp5 := hok.1.1.2.1.1
  have hn8 := hok.1.1.1.1
  unfold f_X11_hours f_X12_hours f_X11_hours_16 f_X12_hours_16
  rw [bnr_of (X_isSender hX.1.1 hok.1.1), bnr_of (M_isSender e0_ (by omega)), bnr_of (X_isWord hX.1.1 hok.1.1), bnr_of (M_isWord e1_ (by omega))]
  rcases arg_split a_ (sp S_.1) (by omega) with ⟨p_, hp, rfl⟩ | hx0
  · rw [if_neg (arg_no hp (by omega)), if_neg ne10, if_neg ne10]
    rcases arg_split b_ (sn S_.1) (by omega) with ⟨w_, hw, rfl⟩ | hx1
    · rw [if_neg (arg_no hw (by omega)), if_neg ne10, if_neg ne10]
      obtain ⟨hx', hm', r_, y1, y2, y3, y4⟩ := hours_lp hX hM_ hok hp hw 24 0 2000 hx hm_ 0 scrX.rf (scrM_self hM_.1.2.2.1) rfl (by decide)
      exact ⟨hx', hm', r_, y1, y2, Sim_scr y3 y4 H0⟩
    · rw [if_pos hx1, if_pos rfl, if_pos rfl]
      exact ⟨hx, hm_, _, rfl, rfl, H0⟩
  · rw [if_pos hx0, if_pos rfl, if_pos rfl]
    exact ⟨hx, hm_, _, rfl, rfl, H0⟩
theorem senders_lp {hx0 hm0 : hp} {S_ : sst} (hX0 : RX hx0 S_) (hM0 : RM hm0 S_) (hok : SOK S_) {w_ s_ : Nat} (hw : w_ < sn S_.1) : ∀ m_ k_ n_ hx hm_ acc, scrX hx0 hx → scrM hm0 hm_ → k_ + m_ = sp S_.1 → m_ < n_ → ∃ hx' hm' r_, f_X11_senders_25 n_ hx (nI w_) (nI s_) acc (nI k_) = some (hx', r_) ∧ f_X12_senders_26 n_ hm_ (nI w_) (nI s_) acc (nI k_) = some (hm', r_) ∧ scrX hx0 hx' ∧ scrM hm0 hm' := by
  have hn8 := hok.1.1.1.1
  have hp5 := hok.1.1.2.1.1
  intro m_
  induction m_ with
  | zero =>
    intro k_ n_ hx hm_ acc sx sm_ h1 h2
    obtain ⟨n_, rfl⟩ : ∃ j_, n_ = j_ + 1 := ⟨n_ - 1, by omega⟩
    have e1_ : hI hx 1 2 = nI (sp S_.1) := (RX_scr sx hX0).1.1.2.1.1
    have e2_ : hI hm_ 52 1 = nI (sp S_.1) := (RM_scr sm_ hM0).1.2.1.1
    have e_ : ¬ nI k_ < nI (sp S_.1) := nI_nlt (by omega) (by omega)
    rw [f_X11_senders_25, f_X12_senders_26, e1_, e2_, if_neg e_, if_neg e_]
    exact ⟨hx, hm_, _, rfl, rfl, sx, sm_⟩
  | succ m_ ih_ =>
    intro k_ n_ hx hm_ acc sx sm_ h1 h2
    obtain ⟨n_, rfl⟩ : ∃ j_, n_ = j_ + 1 := ⟨n_ - 1, by omega⟩
    have hX := RX_scr sx hX0
    have hM_ := RM_scr sm_ hM0
    have e1_ : hI hx 1 2 = nI (sp S_.1) := hX.1.1.2.1.1
    have e2_ : hI hm_ 52 1 = nI (sp S_.1) := hM_.1.2.1.1
    have e_ : nI k_ < nI (sp S_.1) := nI_lt (by omega) (by omega)
    obtain ⟨hx', hm', v_, hv, y1, z1, y2, z2, -⟩ := XM_show hX hM_ hok (p_ := k_) (s_ := sW S_.1 w_) (by omega) (hok.1.1.1.2 w_ hw)
    rw [f_X11_senders_25, f_X12_senders_26, e1_, e2_, if_pos e_, if_pos e_, bnr_of (X_get hX.1.1 hok.1.1 hw), bnd_of y1, chk_of (vp_in_nI (n := w_) (N := 8) (by omega) (by decide)), nI_clamp (n := w_) (by omega), show aI hm_ 53 w_ = nI (sW S_.1 w_) from hM_.1.1.2 w_ hw, bnd_of z1]
    unfold f_X11_senders_65 f_X12_senders_60
    by_cases hq : nI v_ = nI s_
    · rw [if_pos hq, if_pos hq, nm_eq, nm_eq, nm_eq, nm_eq, nI_1]
      exact ih_ (k_ + 1) n_ hx' hm' _ (sx.tr y2) (sm_.tr z2) (by omega) (by omega)
    · rw [if_neg hq, if_neg hq, nm_eq, nm_eq, nm_eq, or_0, nI_1]
      exact ih_ (k_ + 1) n_ hx' hm' acc (sx.tr y2) (sm_.tr z2) (by omega) (by omega)
theorem s_senders {hx hm_ : hp} (H_ : Sim hx hm_) (a_ b_ : Int32) : ∃ hx' hm' r_, f_X11_senders hx a_ b_ = some (hx', r_) ∧ f_X12_senders hm_ a_ b_ = some (hm', r_) ∧ Sim hx' hm' := by
  have H0 := H_
  obtain ⟨S_, hX, hM_, hok, ht⟩ := H_
  have e1_ : hI hm_ 52 0 = nI (sn S_.1) := hM_.1.1.1
  have hp5 := hok.1.1.2.1.1
  have hn8 := hok.1.1.1.1
  unfold f_X11_senders f_X12_senders
  rw [bnr_of (X_isWord hX.1.1 hok.1.1), bnr_of (M_isWord e1_ (by omega)), bnr_of X_isSign, bnr_of M_isSign]
  rcases arg_split a_ (sn S_.1) (by omega) with ⟨w_, hw, rfl⟩ | hx0
  · rw [if_neg (arg_no hw (by omega)), if_neg ne10, if_neg ne10]
    rcases arg_split b_ 1024 (by decide) with ⟨s_, hs, rfl⟩ | hx1
    · rw [if_neg (arg_no hs (by decide)), if_neg ne10, if_neg ne10]
      obtain ⟨hx', hm', r_, y1, y2, y3, y4⟩ := senders_lp hX hM_ hok (s_ := s_) hw (sp S_.1) 0 2000 hx hm_ 0 scrX.rf scrM.rf (Nat.zero_add _) (by omega)
      exact ⟨hx', hm', r_, y1, y2, Sim_scr y3 y4 H0⟩
    · rw [if_pos hx1, if_pos rfl, if_pos rfl]
      exact ⟨hx, hm_, _, rfl, rfl, H0⟩
  · rw [if_pos hx0, if_pos rfl, if_pos rfl]
    exact ⟨hx, hm_, _, rfl, rfl, H0⟩
theorem meant_lp {hx0 hm0 : hp} {S_ : sst} (hX0 : RX hx0 S_) (hM0 : RM hm0 S_) (hok : SOK S_) {p_ s_ : Nat} (hp : p_ < sp S_.1) : ∀ m_ k_ n_ hx hm_ acc, scrX hx0 hx → scrM hm0 hm_ → k_ + m_ = sn S_.1 → m_ < n_ → ∃ hx' hm' r_, f_X11_meant_25 n_ hx (nI p_) (nI s_) acc (nI k_) = some (hx', r_) ∧ f_X12_meant_26 n_ hm_ (nI p_) (nI s_) acc (nI k_) = some (hm', r_) ∧ scrX hx0 hx' ∧ scrM hm0 hm' := by
  have hn8 := hok.1.1.1.1
  have hp5 := hok.1.1.2.1.1
  intro m_
  induction m_ with
  | zero =>
    intro k_ n_ hx hm_ acc sx sm_ h1 h2
    obtain ⟨n_, rfl⟩ : ∃ j_, n_ = j_ + 1 := ⟨n_ - 1, by omega⟩
    have e1_ : hI hx 2 1 = nI (sn S_.1) := (RX_scr sx hX0).1.1.1.1
    have e2_ : hI hm_ 52 0 = nI (sn S_.1) := (RM_scr sm_ hM0).1.1.1
    have e_ : ¬ nI k_ < nI (sn S_.1) := nI_nlt (by omega) (by omega)
    rw [f_X11_meant_25, f_X12_meant_26, e1_, e2_, if_neg e_, if_neg e_]
    exact ⟨hx, hm_, _, rfl, rfl, sx, sm_⟩
  | succ m_ ih_ =>
    intro k_ n_ hx hm_ acc sx sm_ h1 h2
    obtain ⟨n_, rfl⟩ : ∃ j_, n_ = j_ + 1 := ⟨n_ - 1, by omega⟩
    have hX := RX_scr sx hX0
    have hM_ := RM_scr sm_ hM0
    have hw : k_ < sn S_.1 := by omega
    have e1_ : hI hx 2 1 = nI (sn S_.1) := hX.1.1.1.1
    have e2_ : hI hm_ 52 0 = nI (sn S_.1) := hM_.1.1.1
    have e_ : nI k_ < nI (sn S_.1) := nI_lt (by omega) (by omega)
    obtain ⟨hx', hm', v_, hv, y1, z1, y2, z2, -⟩ := XM_show hX hM_ hok (s_ := sW S_.1 k_) hp (hok.1.1.1.2 k_ hw)
    rw [f_X11_meant_25, f_X12_meant_26, e1_, e2_, if_pos e_, if_pos e_, bnr_of (X_get hX.1.1 hok.1.1 hw), bnd_of y1, chk_of (vp_in_nI (n := k_) (N := 8) (by omega) (by decide)), nI_clamp (n := k_) (by omega), show aI hm_ 53 k_ = nI (sW S_.1 k_) from hM_.1.1.2 k_ hw, bnd_of z1]
    unfold f_X11_meant_68 f_X12_meant_60
    by_cases hq : nI v_ = nI s_
    · rw [if_pos hq, if_pos hq, nm_eq, nm_eq, nm_eq, nm_eq, nI_1]
      exact ih_ (k_ + 1) n_ hx' hm' _ (sx.tr y2) (sm_.tr z2) (by omega) (by omega)
    · rw [if_neg hq, if_neg hq, nm_eq, nm_eq, nm_eq, or_0, nI_1]
      exact ih_ (k_ + 1) n_ hx' hm' acc (sx.tr y2) (sm_.tr z2) (by omega) (by omega)
theorem s_meant {hx hm_ : hp} (H_ : Sim hx hm_) (a_ b_ : Int32) : ∃ hx' hm' r_, f_X11_meant hx a_ b_ = some (hx', r_) ∧ f_X12_meant hm_ a_ b_ = some (hm', r_) ∧ Sim hx' hm' := by
  have H0 := H_
  obtain ⟨S_, hX, hM_, hok, ht⟩ := H_
  have e0_ : hI hm_ 52 1 = nI (sp S_.1) := hM_.1.2.1.1
  have hp5 := hok.1.1.2.1.1
  have hn8 := hok.1.1.1.1
  unfold f_X11_meant f_X12_meant
  rw [bnr_of (X_isSender hX.1.1 hok.1.1), bnr_of (M_isSender e0_ (by omega)), bnr_of X_isSign, bnr_of M_isSign]
  rcases arg_split a_ (sp S_.1) (by omega) with ⟨p_, hp, rfl⟩ | hx0
  · rw [if_neg (arg_no hp (by omega)), if_neg ne10, if_neg ne10]
    rcases arg_split b_ 1024 (by decide) with ⟨s_, hs, rfl⟩ | hx1
    · rw [if_neg (arg_no hs (by decide)), if_neg ne10, if_neg ne10]
      obtain ⟨hx', hm', r_, y1, y2, y3, y4⟩ := meant_lp hX hM_ hok (s_ := s_) hp (sn S_.1) 0 2000 hx hm_ 0 scrX.rf scrM.rf (Nat.zero_add _) (by omega)
      exact ⟨hx', hm', r_, y1, y2, Sim_scr y3 y4 H0⟩
    · rw [if_pos hx1, if_pos rfl, if_pos rfl]
      exact ⟨hx, hm_, _, rfl, rfl, H0⟩
  · rw [if_pos hx0, if_pos rfl, if_pos rfl]
    exact ⟨hx, hm_, _, rfl, rfl, H0⟩
