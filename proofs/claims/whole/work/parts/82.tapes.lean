-- ===== calls: tapes =====
theorem tapeK {h_ : hp} {t_ : Nat} (ht : t_ < 6) : sd 1 (39 + 2 * t_) = true ∧ kdOf h_ (39 + 2 * t_) = 8 ∧ sd 1 (39 + 2 * t_ + 1) = true ∧ kdOf h_ (39 + 2 * t_ + 1) = 40 + 10 * 60 + 3 := by
  rcases (show t_ = 0 ∨ t_ = 1 ∨ t_ = 2 ∨ t_ = 3 ∨ t_ = 4 ∨ t_ = 5 by omega) with rfl | rfl | rfl | rfl | rfl | rfl <;> exact ⟨rfl, rfl, rfl, rfl⟩
theorem X6_has {h_ : hp} {t_ n_ : Nat} {i_ : Int32} (ht : t_ < 6) (hn : hI h_ (39 + 2 * t_) 2 = nI n_) (h60 : n_ ≤ 60) : f_X6_has h_ (39 + 2 * t_) i_ = some (if i_ < 0 ∨ nI n_ ≤ i_ then 0 else 1) := by
  obtain ⟨k1_, k2_, -⟩ := tapeK (h_ := h_) ht
  unfold f_X6_has f_X6_has_16 f_X6_has_17
  rw [ckO_of k1_ k2_, hn]
  exact in_of (n := n_) (by omega)
theorem tpO_n {s_ l : Int32} (h_ : tpO s_ l) : ∃ n_, n_ ≤ 60 ∧ l = nI n_ ∧ (s_ < 0 → n_ = 0) ∧ ((s_ = -1 ∧ s_ < 0) ∨ ∃ a_, a_ < 5 ∧ s_ = nI a_ ∧ ¬ s_ < 0 ∧ ¬ s_ = -1) := by
  rcases h_ with ⟨rfl, rfl⟩ | ⟨a_, n_, ha_, hn, rfl, rfl⟩
  · exact ⟨0, by omega, rfl, fun _ => rfl, Or.inl ⟨rfl, by decide⟩⟩
  · have h0 : ¬ nI a_ < 0 := nI_pos (by omega)
    exact ⟨n_, hn, rfl, fun h_ => absurd h_ h0, Or.inr ⟨a_, ha_, rfl, h0, fun z_ => h0 (by rw [z_]; decide)⟩⟩
theorem mul60 {t_ : Nat} : (60 : Int32) * nI t_ = nI (60 * t_) := by rw [show (60 : Int32) = nI 60 from rfl, pk_mul]
theorem s_read {hx hm_ : hp} (H_ : Sim hx hm_) (a_ b_ : Int32) : ∃ r_, f_X11_read hx a_ b_ = some r_ ∧ f_X12_read hm_ a_ b_ = some r_ := by
  obtain ⟨S_, hX, hM_, hok, ht⟩ := H_
  unfold f_X11_read f_X12_read f_X11_read_34 f_X12_read_34 f_X11_read_37 f_X12_read_51
  rw [bnr_of X_isTape, bnr_of M_isTape]
  rcases arg_split a_ 6 (by decide) with ⟨t_, ht6, rfl⟩ | hx0
  · obtain ⟨t1_, t2_, t3_, t4_, t5_⟩ := ht t_ ht6
    obtain ⟨n_, n1_, n2_, n3_, n4_⟩ := tpO_n t4_
    obtain ⟨k1_, k2_, k3_, k4_⟩ := tapeK (h_ := hx) ht6
    have hin : vp_in (nI t_) 6 := vp_in_nI ht6 (by decide)
    have hA := fun (y_ : Option Int64) => ckA_of (b := 1) (h := hx) (i := 39 + 2 * t_ + 1) (e := 3) (n := 60) (a := y_) k3_ k4_ (by decide)
    rw [if_neg (arg_no ht6 (by decide)), if_neg ne10, if_neg ne10, chk_of hin, nI_clamp (n := t_) (by omega), onO_of t1_, ckO_of k1_ k2_, bnr_of (X6_has ht6 n2_ n1_), chk_of hin, onO_of t1_, ckO_of k1_ k2_, (hA _).1, (hA none).2, chk_of hin, t2_, chk_of hin, t3_, n2_, bnr_of (M_in0 (n := n_) (by omega) rfl)]
    rcases arg_split b_ n_ (by omega) with ⟨i_, hi_, rfl⟩ | hx1
    · have s0_ : ¬ hI hx (39 + 2 * t_) 1 < 0 := fun hc_ => by have := n3_ hc_; omega
      rw [if_neg (arg_no hi_ (by omega)), if_neg ne10, if_neg s0_, if_neg ne10, chk_of (vp_in_nI (n := i_) (N := 60) (by omega) (by decide)), nI_clamp (n := i_) (by omega), mul60, nI_add, chk_of (vp_in_nI (n := 60 * t_ + i_) (N := 360) (by omega) (by decide)), nI_clamp (n := 60 * t_ + i_) (by omega), t5_ i_ (by omega), show 40 + 2 * t_ = 39 + 2 * t_ + 1 by omega]
      exact ⟨_, rfl, rfl⟩
    · rw [if_pos hx1, if_pos rfl, if_pos rfl]
      refine ⟨_, rfl, ?_⟩
      split <;> rfl
  · rw [if_pos hx0, if_pos rfl, if_pos rfl]
    exact ⟨_, rfl, rfl⟩
theorem narrow_eq {hx hm_ : hp} {a_ : Nat} (ha_ : a_ < 5) (v_ : Int64) : ∃ r_, f_X6_narrowed hx (nI a_) v_ = some r_ ∧ f_X12_narrow hm_ (nI a_) v_ = some r_ := by
  rcases (show a_ = 0 ∨ a_ = 1 ∨ a_ = 2 ∨ a_ = 3 ∨ a_ = 4 by omega) with rfl | rfl | rfl | rfl | rfl
  · exact ⟨_, rfl, rfl⟩
  · exact ⟨_, rfl, rfl⟩
  · exact ⟨_, rfl, rfl⟩
  · exact ⟨_, rfl, rfl⟩
  · show ∃ r_, (if lg_cmp v_ 0 = 0 then some (0 : Int64) else some 1) = some r_ ∧ (if lg_cmp v_ 0 = 0 then some (0 : Int64) else some 1) = some r_
    split
    · exact ⟨_, rfl, rfl⟩
    · exact ⟨_, rfl, rfl⟩
theorem RX_tape {h_ h' : hp} {S_ : sst} (x_ : agX (fun j_ => 39 ≤ j_ ∧ j_ ≤ 50) h_ h') (H_ : RX h_ S_) : RX h' S_ := by
  refine RX_out (S_ := S_) (tx := S_.2.2.2.1) (tt := S_.2.2.2.2) x_ (fun j_ hj => by omega) H_ ?_ ?_
  · rw [(x_.2 25 (by omega)).1, (x_.2 26 (by omega)).2.2.1]; exact H_.2.2.2.1
  · rw [(x_.2 33 (by omega)).1, (x_.2 34 (by omega)).2.2.1]; exact H_.2.2.2.2.2.1
theorem s_item {hx hm_ : hp} (H_ : Sim hx hm_) (a_ b_ : Int32) (v_ : Int64) : ∃ hx' hm' r_, f_X11_item hx a_ b_ v_ = some (hx', r_) ∧ f_X12_item hm_ a_ b_ v_ = some (hm', r_) ∧ Sim hx' hm' := by
  have H0 := H_
  obtain ⟨S_, hX, hM_, hok, ht⟩ := H_
  unfold f_X11_item f_X12_item
  rw [bnr_of X_isTape, bnr_of M_isTape]
  rcases arg_split a_ 6 (by decide) with ⟨t_, ht6, rfl⟩ | hx0
  · obtain ⟨t1_, t2_, t3_, t4_, t5_⟩ := ht t_ ht6
    obtain ⟨n_, n1_, n2_, n3_, n4_⟩ := tpO_n t4_
    obtain ⟨k1_, k2_, k3_, k4_⟩ := tapeK (h_ := hx) ht6
    have hin : vp_in (nI t_) 6 := vp_in_nI ht6 (by decide)
    have hA := fun (y_ : Option (hp × Int32)) => ckA_of (b := 1) (h := hx) (i := 39 + 2 * t_ + 1) (e := 3) (n := 60) (a := y_) k3_ k4_ (by decide)
    rw [if_neg (arg_no ht6 (by decide)), if_neg ne10, if_neg ne10, chk_of hin, nI_clamp (n := t_) (by omega), onO_of t1_, ckO_of k1_ k2_, chk_of hin, t2_]
    rcases n4_ with ⟨e1_, e2_⟩ | ⟨z_, z5, e1_, e2_, e3_⟩
    · rw [if_pos e1_, if_pos e2_]
      exact ⟨hx, hm_, _, rfl, rfl, H0⟩
    · rw [if_neg e3_, if_neg e2_, ckO_of k1_ k2_, bnr_of (X6_has ht6 n2_ n1_), chk_of hin, t3_, n2_, bnr_of (M_in0 (n := n_) (by omega) rfl)]
      rcases arg_split b_ n_ (by omega) with ⟨i_, hi_, rfl⟩ | hx1
      · obtain ⟨r_, r1_, r2⟩ := narrow_eq (hx := hx) (hm_ := hm_) z5 v_
        rw [if_neg (arg_no hi_ (by omega)), if_neg ne10, if_neg ne10, ckO_of k1_ k2_, ckO_of k1_ k2_, e1_, bnr_of r1_, (hA _).1, (hA none).2, chk_of (vp_in_nI (n := i_) (N := 60) (by omega) (by decide)), nm_eq, chk_of hin, bnr_of r2, mul60, nI_add, chk_of (vp_in_nI (n := 60 * t_ + i_) (N := 360) (by omega) (by decide)), nm_eq, nI_clamp (n := i_) (by omega), nI_clamp (n := 60 * t_ + i_) (by omega)]
        refine ⟨_, _, _, rfl, rfl, S_, RX_tape (agX_tL (by omega)) hX, hM_, hok, fun t' ht' => ?_⟩
        obtain ⟨u1_, u2_, u3, u4_, u5⟩ := ht t' ht'
        refine ⟨u1_, u2_, u3, u4_, fun k_ hk => ?_⟩
        rw [aL_tL, aL_tL]
        by_cases e_ : t' = t_ ∧ k_ = i_
        · rw [if_pos ⟨rfl, by omega⟩, if_pos ⟨by omega, e_.2⟩]
        · rw [if_neg (by rintro ⟨-, hh⟩; exact e_ (by omega)), if_neg (by rintro ⟨hh, hh2⟩; exact e_ (by omega))]
          exact u5 k_ hk
      · rw [if_pos hx1, if_pos rfl, if_pos rfl]
        exact ⟨hx, hm_, _, rfl, rfl, H0⟩
  · rw [if_pos hx0, if_pos rfl, if_pos rfl]
    exact ⟨hx, hm_, _, rfl, rfl, H0⟩
/-- only long_ rows_ change -/
def agL (h_ h' : hp) : Prop := h'.1 = h_.1 ∧ h'.2.1 = h_.2.1 ∧ h'.2.2.1 = h_.2.2.1 ∧ h'.2.2.2.2 = h_.2.2.2.2
theorem agL.rf {h_ : hp} : agL h_ h_ := ⟨rfl, rfl, rfl, rfl⟩
theorem agL.tr {h_ h1 h2 : hp} (x_ : agL h_ h1) (y_ : agL h1 h2) : agL h_ h2 := ⟨y_.1.trans x_.1, y_.2.1.trans x_.2.1, y_.2.2.1.trans x_.2.2.1, y_.2.2.2.trans x_.2.2.2⟩
theorem agL_tL {h_ : hp} {i_ k_ : Nat} {v_ : Int64} : agL h_ (tL h_ i_ k_ v_) := ⟨rfl, rfl, rfl, rfl⟩
theorem agL.hI {h_ h' : hp} (x_ : agL h_ h') : hI h' = hI h_ := by funext a_ b_; show h'.1 a_ b_ = h_.1 a_ b_; rw [x_.1]
theorem agL.hR {h_ h' : hp} (x_ : agL h_ h') : hR h' = hR h_ := by funext a_ b_; show h'.2.1 a_ b_ = h_.2.1 a_ b_; rw [x_.2.1]
theorem agL.aI {h_ h' : hp} (x_ : agL h_ h') : aI h' = aI h_ := by funext a_ b_; show h'.2.2.1 a_ b_ = h_.2.2.1 a_ b_; rw [x_.2.2.1]
theorem agL.aR {h_ h' : hp} (x_ : agL h_ h') : aR h' = aR h_ := by funext a_ b_; show h'.2.2.2.2.1 a_ b_ = h_.2.2.2.2.1 a_ b_; rw [x_.2.2.2]
theorem agL_X {P_ : Nat → Prop} {h_ h' : hp} (x_ : agL h_ h') (hL : ∀ a_, ¬ P_ a_ → aL h' a_ = aL h_ a_) : agX P_ h_ h' := ⟨by rw [x_.2.2.2], fun a_ ha_ => ⟨congrFun x_.hI a_, congrFun x_.hR a_, congrFun x_.aI a_, hL a_ ha_, congrFun x_.aR a_⟩⟩
theorem RM_agL {h_ h' : hp} {S_ : sst} (x_ : agL h_ h') (H_ : RM h_ S_) : RM h' S_ := by
  obtain ⟨a1_, a2, a3, a4, a5, a6⟩ := H_
  have e1_ := x_.hI
  have e2_ := x_.aI
  refine ⟨?_, ?_, by rw [e1_]; exact a3, by rw [e1_, e2_]; exact a4, by rw [e2_]; exact a5, by rw [e1_, e2_]; exact a6⟩
  · unfold scM1 scM wdM at a1_ ⊢
    rw [e1_, e2_]; exact a1_
  · unfold tkM scM2 scM wdM at a2 ⊢
    rw [e1_, e2_]; exact a2
theorem X6_blank_lp {t_ : Nat} (ht : t_ < 6) : ∀ m_ k_ n_ h_, k_ + m_ = 60 → m_ < n_ → ∃ h', f_X6_blank_12 n_ h_ (39 + 2 * t_) (nI k_) = some (h', ()) ∧ agL h_ h' ∧ ∀ a_ j_, aL h' a_ j_ = if a_ = 39 + 2 * t_ + 1 ∧ k_ ≤ j_ ∧ j_ < 60 then 0 else aL h_ a_ j_ := by
  intro m_
  induction m_ with
  | zero =>
    intro k_ n_ h_ h1 h2
    obtain ⟨n_, rfl⟩ : ∃ j_, n_ = j_ + 1 := ⟨n_ - 1, by omega⟩
    rw [f_X6_blank_12, if_neg (show ¬ nI k_ < (60 : Int32) from nI_nlt (b := 60) (by omega) (by omega))]
    exact ⟨h_, rfl, agL.rf, fun a_ j_ => by rw [if_neg (by omega)]⟩
  | succ m_ ih_ =>
    intro k_ n_ h_ h1 h2
    obtain ⟨n_, rfl⟩ : ∃ j_, n_ = j_ + 1 := ⟨n_ - 1, by omega⟩
    obtain ⟨k1_, k2_, k3_, k4_⟩ := tapeK (h_ := h_) ht
    have hA := fun (y_ : Option (hp × Unit)) => ckA_of (b := 1) (h := h_) (i := 39 + 2 * t_ + 1) (e := 3) (n := 60) (a := y_) k3_ k4_ (by decide)
    rw [f_X6_blank_12, if_pos (show nI k_ < (60 : Int32) from nI_lt (b := 60) (by omega) (by decide)), ckO_of k1_ k2_, (hA _).1, (hA none).2, chk_of (vp_in_nI (n := k_) (N := 60) (by omega) (by decide)), nm_eq, nm_eq, nI_clamp (n := k_) (by omega), nI_1]
    obtain ⟨h', y1, y2, y3⟩ := ih_ (k_ + 1) n_ (tL h_ (39 + 2 * t_ + 1) k_ 0) (by omega) (by omega)
    refine ⟨h', y1, agL_tL.tr y2, fun a_ j_ => ?_⟩
    rw [y3, aL_tL]
    by_cases e1_ : a_ = 39 + 2 * t_ + 1 ∧ k_ + 1 ≤ j_ ∧ j_ < 60
    · rw [if_pos e1_, if_pos (by omega)]
    · rw [if_neg e1_]
      by_cases e2_ : a_ = 39 + 2 * t_ + 1 ∧ j_ = k_
      · rw [if_pos e2_, if_pos (by omega)]
      · rw [if_neg e2_, if_neg (by omega)]
theorem M_blank_lp {t_ : Nat} (ht : t_ < 6) : ∀ m_ k_ n_ h_, k_ + m_ = 60 → m_ < n_ → ∃ h', f_X12_tape_69 n_ h_ (nI t_) (nI k_) = some (h', 1) ∧ agL h_ h' ∧ ∀ a_ j_, aL h' a_ j_ = if a_ = 89 ∧ 60 * t_ + k_ ≤ j_ ∧ j_ < 60 * t_ + 60 then 0 else aL h_ a_ j_ := by
  intro m_
  induction m_ with
  | zero =>
    intro k_ n_ h_ h1 h2
    obtain ⟨n_, rfl⟩ : ∃ j_, n_ = j_ + 1 := ⟨n_ - 1, by omega⟩
    rw [f_X12_tape_69, if_neg (show ¬ nI k_ < (60 : Int32) from nI_nlt (b := 60) (by omega) (by omega))]
    exact ⟨h_, rfl, agL.rf, fun a_ j_ => by rw [if_neg (by omega)]⟩
  | succ m_ ih_ =>
    intro k_ n_ h_ h1 h2
    obtain ⟨n_, rfl⟩ : ∃ j_, n_ = j_ + 1 := ⟨n_ - 1, by omega⟩
    rw [f_X12_tape_69, if_pos (show nI k_ < (60 : Int32) from nI_lt (b := 60) (by omega) (by decide)), mul60, nI_add, chk_of (vp_in_nI (n := 60 * t_ + k_) (N := 360) (by omega) (by decide)), nm_eq, nm_eq, nI_clamp (n := 60 * t_ + k_) (by omega), nI_1]
    obtain ⟨h', y1, y2, y3⟩ := ih_ (k_ + 1) n_ (tL h_ 89 (60 * t_ + k_) 0) (by omega) (by omega)
    refine ⟨h', y1, agL_tL.tr y2, fun a_ j_ => ?_⟩
    rw [y3, aL_tL]
    by_cases e1_ : a_ = 89 ∧ 60 * t_ + (k_ + 1) ≤ j_ ∧ j_ < 60 * t_ + 60
    · rw [if_pos e1_, if_pos (by omega)]
    · rw [if_neg e1_]
      by_cases e2_ : a_ = 89 ∧ j_ = 60 * t_ + k_
      · rw [if_pos e2_, if_pos (by omega)]
      · rw [if_neg e2_, if_neg (by omega)]
/-- a_ tape becomes a_ row_ of_ zeros, or nothing -/
theorem tape_set {hx hm_ : hp} (H_ : Sim hx hm_) {t_ n_ : Nat} {s_ : Int32} (ht6 : t_ < 6) (hs : tpO s_ (nI n_)) (hn : n_ ≤ 60) : ∃ hx' hm', f_X6_blank hx (39 + 2 * t_) s_ (nI n_) = some (hx', ()) ∧ f_X12_tape_69 2000 (tI (tI hm_ 87 t_ s_) 88 t_ (nI n_)) (nI t_) (0 : Int32) = some (hm', 1) ∧ Sim hx' hm' := by
  obtain ⟨S_, hX, hM_, hok, ht⟩ := H_
  obtain ⟨k1_, k2_, k3_, k4_⟩ := tapeK (h_ := hx) ht6
  obtain ⟨hx', y1, y2, y3⟩ := X6_blank_lp ht6 60 0 2000 (sI (sI hx (39 + 2 * t_) 1 s_) (39 + 2 * t_) 2 (nI n_)) rfl (by decide)
  obtain ⟨hm', z1, z2, z3⟩ := M_blank_lp ht6 60 0 2000 (tI (tI hm_ 87 t_ s_) 88 t_ (nI n_)) rfl (by decide)
  refine ⟨hx', hm', ?_, z1, S_, ?_, ?_, hok, fun t' ht' => ?_⟩
  · unfold f_X6_blank
    rw [ckO_of k1_ k2_, nm_eq, ckO_of k1_ (show kdOf (sI hx (39 + 2 * t_) 1 s_) (39 + 2 * t_) = 8 from k2_), nm_eq]
    exact y1
  · have x1_ : agX (fun j_ => 39 ≤ j_ ∧ j_ ≤ 50) hx (sI (sI hx (39 + 2 * t_) 1 s_) (39 + 2 * t_) 2 (nI n_)) := (agX_sI (by omega)).tr (agX_sI (by omega))
    refine RX_tape (x1_.tr (agL_X y2 (fun a_ ha_ => ?_))) hX
    funext j_
    rw [y3, if_neg (by omega)]
  · exact RM_agL z2 hM_
  · obtain ⟨u1_, u2_, u3, u4_, u5⟩ := ht t' ht'
    have r1_ : aR hx' 32 t' = some (39 + 2 * t') := by rw [y2.aR]; exact u1_
    have r2 : hI hx' (39 + 2 * t') 1 = if t' = t_ then s_ else hI hx (39 + 2 * t') 1 := by
      rw [y2.hI, hI_sI, if_neg (by rintro ⟨-, hh⟩; exact absurd hh (by decide)), hI_sI]
      by_cases e_ : t' = t_
      · rw [if_pos ⟨by omega, rfl⟩, if_pos e_]
      · rw [if_neg (by rintro ⟨hh, -⟩; omega), if_neg e_]
    have r3 : hI hx' (39 + 2 * t') 2 = if t' = t_ then nI n_ else hI hx (39 + 2 * t') 2 := by
      rw [y2.hI, hI_sI]
      by_cases e_ : t' = t_
      · rw [if_pos ⟨by omega, rfl⟩, if_pos e_]
      · rw [if_neg (by rintro ⟨hh, -⟩; omega), if_neg e_, hI_sI, if_neg (by rintro ⟨-, hh⟩; exact absurd hh (by decide))]
    have m2_ : aI hm' 87 t' = if t' = t_ then s_ else aI hm_ 87 t' := by
      rw [z2.aI, aI_tI, if_neg (by rintro ⟨hh, -⟩; exact absurd hh (by decide)), aI_tI]
      by_cases e_ : t' = t_
      · rw [if_pos ⟨rfl, e_⟩, if_pos e_]
      · rw [if_neg (by rintro ⟨-, hh⟩; exact e_ hh), if_neg e_]
    have m3_ : aI hm' 88 t' = if t' = t_ then nI n_ else aI hm_ 88 t' := by
      rw [z2.aI, aI_tI]
      by_cases e_ : t' = t_
      · rw [if_pos ⟨rfl, e_⟩, if_pos e_]
      · rw [if_neg (by rintro ⟨-, hh⟩; exact e_ hh), if_neg e_, aI_tI, if_neg (by rintro ⟨hh, -⟩; exact absurd hh (by decide))]
    rw [r1_, r2, r3, m2_, m3_]
    by_cases e_ : t' = t_
    · subst e_
      rw [if_pos rfl, if_pos rfl, if_pos rfl, if_pos rfl]
      refine ⟨rfl, rfl, rfl, hs, fun k_ hk => ?_⟩
      rw [z3, y3, if_pos (by omega), if_pos (by omega)]
    · rw [if_neg e_, if_neg e_, if_neg e_, if_neg e_]
      refine ⟨rfl, u2_, u3, u4_, fun k_ hk => ?_⟩
      rw [z3, y3, if_neg (by omega), if_neg (by omega)]
      exact u5 k_ hk
theorem s_tape {hx hm_ : hp} (H_ : Sim hx hm_) (a_ b_ c_ : Int32) : ∃ hx' hm' r_, f_X11_tape hx a_ b_ c_ = some (hx', r_) ∧ f_X12_tape hm_ a_ b_ c_ = some (hm', r_) ∧ Sim hx' hm' := by
  have H0 := H_
  obtain ⟨S_, hX, hM_, hok, ht⟩ := H_
  unfold f_X11_tape f_X12_tape f_X11_tape_19 f_X12_tape_30 f_X12_tape_33 f_X12_tape_44 f_X12_tape_65
  rw [bnr_of X_isTape, bnr_of M_isTape, bnr_of M_in]
  rcases arg_split a_ 6 (by decide) with ⟨t_, ht6, rfl⟩ | hx0
  · obtain ⟨t1_, -⟩ := ht t_ ht6
    obtain ⟨k1_, k2_, k3_, k4_⟩ := tapeK (h_ := hx) ht6
    have hin : vp_in (nI t_) 6 := vp_in_nI ht6 (by decide)
    have ct : (nI t_).toNatClampNeg = t_ := nI_clamp (by omega)
    rw [if_neg (arg_no ht6 (by decide)), if_neg ne10, if_neg ne10]
    by_cases l1 : b_ < -1
    · rw [if_pos l1, if_pos (Or.inl l1), if_pos rfl]
      exact ⟨hx, hm_, _, rfl, rfl, H0⟩
    · rw [if_neg l1]
      by_cases l2 : (4 : Int32) < b_
      · rw [if_pos l2, if_pos (Or.inr l2), if_pos rfl]
        exact ⟨hx, hm_, _, rfl, rfl, H0⟩
      · have l12 : ¬ (b_ < -1 ∨ (4 : Int32) < b_) := fun hq => hq.elim l1 l2
        rw [if_neg l2, if_neg l12, if_neg ne10]
        by_cases e1_ : b_ = -1
        · subst e1_
          obtain ⟨hx', hm', y1, y2, y3⟩ := tape_set (n_ := 0) (s_ := -1) H0 ht6 (Or.inl ⟨rfl, rfl⟩) (by omega)
          rw [if_pos rfl, chk_of hin, ct, onO_of t1_, ckO_of k1_ k2_, bnd_of (show f_X6_blank hx (39 + 2 * t_) (-1 : Int32) (0 : Int32) = some (hx', ()) from y1), if_pos (by decide), if_pos (by decide), chk_of hin, nm_eq, if_pos (by decide), chk_of hin, nm_eq]
          exact ⟨hx', hm', _, rfl, y2, y3⟩
        · have hb_ : ∃ s_, s_ < 5 ∧ b_ = nI s_ := by
            rcases arg_split b_ 5 (by decide) with ⟨s_, hs, rfl⟩ | hs
            · exact ⟨s_, hs, rfl⟩
            · exfalso
              have g1 : ((-1 : Int32)).toInt = -1 := rfl
              have g2 : ((4 : Int32)).toInt = 4 := rfl
              rw [Int32.lt_iff_toInt_lt] at l1 l2
              rcases hs with hs | hs
              · have g3_ := Int32.lt_iff_toInt_lt.mp hs
                have g4 : ((0 : Int32)).toInt = 0 := rfl
                exact e1_ (Int32.toInt_inj.mp (by omega))
              · have g3_ := Int32.le_iff_toInt_le.mp hs
                rw [nI_toInt (by decide)] at g3_
                omega
          obtain ⟨s_, hs, rfl⟩ := hb_
          have s0_ : ¬ nI s_ < 0 := nI_pos (by omega)
          rw [if_neg e1_, if_neg s0_]
          by_cases l3 : (60 : Int32) < c_
          · rw [if_pos l3, if_pos l3]
            exact ⟨hx, hm_, _, rfl, rfl, H0⟩
          · rw [if_neg l3, if_neg l3]
            by_cases l4 : c_ < 0
            · rw [if_pos l4, if_neg s0_, if_pos l4]
              exact ⟨hx, hm_, _, rfl, rfl, H0⟩
            · have hn : ∃ n_, n_ ≤ 60 ∧ c_ = nI n_ := by
                rcases arg_split c_ 61 (by decide) with ⟨n_, hn, rfl⟩ | hn
                · exact ⟨n_, by omega, rfl⟩
                · exfalso
                  rcases hn with hn | hn
                  · exact l4 hn
                  · have g3_ := Int32.le_iff_toInt_le.mp hn
                    have g2 : ((60 : Int32)).toInt = 60 := rfl
                    rw [Int32.lt_iff_toInt_lt] at l3
                    rw [nI_toInt (by decide)] at g3_
                    omega
              obtain ⟨n_, hn, rfl⟩ := hn
              obtain ⟨hx', hm', y1, y2, y3⟩ := tape_set (n_ := n_) (s_ := nI s_) H0 ht6 (Or.inr ⟨s_, n_, hs, hn, rfl, rfl⟩) hn
              rw [if_neg l4, chk_of hin, ct, onO_of t1_, ckO_of k1_ k2_, bnd_of y1, if_neg s0_, if_neg l4, chk_of hin, nm_eq, if_neg s0_, chk_of hin, nm_eq]
              exact ⟨hx', hm', _, rfl, y2, y3⟩
  · rw [if_pos hx0, if_pos rfl, if_pos rfl]
    exact ⟨hx, hm_, _, rfl, rfl, H0⟩
