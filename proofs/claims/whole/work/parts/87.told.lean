-- ===== calls: told_, judge =====
def WA (least pair_ found low_ : Int32) : Prop := (least = nI 11 ∧ pair_ = -5 ∧ found = -5 ∧ low_ = -5) ∨ ∃ f_ l, f_ < 100 ∧ l ≤ 10 ∧ pair_ = nI f_ ∧ found = nI f_ ∧ least = nI l ∧ low_ = nI l
theorem WA_step {least pair_ found low_ : Int32} {v_ g_ : Nat} (H_ : WA least pair_ found low_) (hv : v_ ≤ 10) (hg : g_ < 100) : (nI v_ < least ↔ (found < 0 ∨ nI v_ < low_)) ∧ WA (nI v_) (nI g_) (nI g_) (nI v_) := by
  refine ⟨?_, Or.inr ⟨g_, v_, hg, hv, rfl, rfl, rfl, rfl⟩⟩
  rcases H_ with ⟨rfl, rfl, rfl, rfl⟩ | ⟨f_, l, hf, hl, rfl, rfl, rfl, rfl⟩
  · exact ⟨fun _ => Or.inl (by decide), fun _ => nI_lt (by omega) (by decide)⟩
  · exact ⟨fun h_ => Or.inr h_, fun h_ => h_.elim (fun h_ => absurd h_ (nI_pos (by omega))) id⟩
theorem WA_in {hx hm_ : hp} {S_ : sst} (hX : RX hx S_) (hM_ : RM hm_ S_) (hok : SOK S_) {a_ : Nat} (ha_ : a_ < sn S_.1) {cx cm : Int32} {kX : Int32 → Int32 → Int32 → Int32 → Option Int32} {kM : Int32 → Int32 → Int32 → Int32 → Option Int32} (hk : ∀ least pair_ found low_, WA least pair_ found low_ → ∃ r_, kX cx least pair_ (nI (a_ + 1)) = some r_ ∧ kM cm found low_ (nI (a_ + 1)) = some r_) : ∀ m_ b_ n_ least pair_ found low_, b_ + m_ = sn S_.1 → m_ < n_ → WA least pair_ found low_ → ∃ r_, f_X11_closestWords_30 hx kX n_ cx least pair_ (nI a_) (nI b_) = some r_ ∧ f_X12_wordsApart_24 hm_ kM n_ cm found low_ (nI a_) (nI b_) = some r_ := by
  have e1_ : hI hm_ 52 0 = nI (sn S_.1) := hM_.1.1.1
  have e2_ : hI hx 2 1 = nI (sn S_.1) := hX.1.1.1.1
  have hn8 := hok.1.1.1.1
  intro m_
  induction m_ with
  | zero =>
    intro b_ n_ least pair_ found low_ h1 h2 hw
    obtain ⟨n_, rfl⟩ : ∃ j_, n_ = j_ + 1 := ⟨n_ - 1, by omega⟩
    have e_ : ¬ nI b_ < nI (sn S_.1) := nI_nlt (by omega) (by omega)
    rw [f_X11_closestWords_30, f_X12_wordsApart_24, e1_, e2_, if_neg e_, if_neg e_, nI_1, nm_eq, nm_eq]
    exact hk _ _ _ _ hw
  | succ m_ ih_ =>
    intro b_ n_ least pair_ found low_ h1 h2 hw
    obtain ⟨n_, rfl⟩ : ∃ j_, n_ = j_ + 1 := ⟨n_ - 1, by omega⟩
    have hb_ : b_ < sn S_.1 := by omega
    have e_ : nI b_ < nI (sn S_.1) := nI_lt hb_ (by omega)
    have sa_ := hok.1.1.1.2 a_ ha_
    have sb_ := hok.1.1.1.2 b_ hb_
    have hp := pop_le 10 (sW S_.1 a_ ^^^ sW S_.1 b_)
    obtain ⟨w1_, w2_⟩ := WA_step (v_ := pop 10 (sW S_.1 a_ ^^^ sW S_.1 b_)) (g_ := 10 * a_ + b_) hw hp (by omega)
    have e10_ : (10 : Int32) * nI a_ + nI b_ = nI (10 * a_ + b_) := by rw [nI_10f, nI_add]
    rw [f_X11_closestWords_30, f_X12_wordsApart_24, e1_, e2_, if_pos e_, if_pos e_, bnr_of (X_get hX.1.1 hok.1.1 ha_), bnr_of (X_get hX.1.1 hok.1.1 hb_), bnr_of (X_apart sa_ sb_), chk_of (vp_in_nI (n := a_) (N := 8) (by omega) (by decide)), chk_of (vp_in_nI (n := b_) (N := 8) (by omega) (by decide)), nI_clamp (n := a_) (by omega), nI_clamp (n := b_) (by omega), show aI hm_ 53 a_ = nI (sW S_.1 a_) from hM_.1.1.2 a_ ha_, show aI hm_ 53 b_ = nI (sW S_.1 b_) from hM_.1.1.2 b_ hb_, bnr_of (M_bits_x sa_ sb_)]
    unfold f_X11_closestWords_92 f_X12_wordsApart_67 f_X12_wordsApart_79
    by_cases hq : nI (pop 10 (sW S_.1 a_ ^^^ sW S_.1 b_)) < least
    · rw [if_pos hq, e10_, nm_eq, nm_eq, nI_1]
      have go_ := ih_ (b_ + 1) n_ _ _ _ _ (by omega) (by omega) w2_
      by_cases f0_ : found < 0
      · rw [if_pos f0_, nm_eq, nm_eq]; exact go_
      · rw [if_neg f0_, if_pos ((w1_.mp hq).resolve_left f0_), nm_eq, nm_eq]; exact go_
    · have f0_ : ¬ found < 0 := fun z_ => hq (w1_.mpr (Or.inl z_))
      have f1_ : ¬ nI (pop 10 (sW S_.1 a_ ^^^ sW S_.1 b_)) < low_ := fun z_ => hq (w1_.mpr (Or.inr z_))
      rw [if_neg hq, if_neg f0_, if_neg f1_, nm_eq, nm_eq, nI_1]
      exact ih_ (b_ + 1) n_ _ _ _ _ (by omega) (by omega) hw
theorem WA_out {hx hm_ : hp} {S_ : sst} (hX : RX hx S_) (hM_ : RM hm_ S_) (hok : SOK S_) {cx cm : Int32} (hc_ : (cx = 0 ∧ cm = 1) ∨ (cx = 1 ∧ cm = 0)) : ∀ m_ a_ n_ least pair_ found low_, a_ + m_ = sn S_.1 → m_ < n_ → WA least pair_ found low_ → ∃ r_, f_X11_closestWords_9 hx n_ cx least pair_ (nI a_) = some r_ ∧ f_X12_wordsApart_9 hm_ n_ cm found low_ (nI a_) = some r_ := by
  have e1_ : hI hm_ 52 0 = nI (sn S_.1) := hM_.1.1.1
  have e2_ : hI hx 2 1 = nI (sn S_.1) := hX.1.1.1.1
  have hn8 := hok.1.1.1.1
  intro m_
  induction m_ with
  | zero =>
    intro a_ n_ least pair_ found low_ h1 h2 hw
    obtain ⟨n_, rfl⟩ : ∃ j_, n_ = j_ + 1 := ⟨n_ - 1, by omega⟩
    have e_ : ¬ nI a_ < nI (sn S_.1) := nI_nlt (by omega) (by omega)
    unfold f_X11_closestWords_9 f_X12_wordsApart_9 f_X11_closestWords_114 f_X11_closestWords_119 f_X12_wordsApart_100
    rw [e1_, e2_, if_neg e_, if_neg e_]
    rcases hc_ with ⟨rfl, rfl⟩ | ⟨rfl, rfl⟩
    · rw [if_pos rfl, if_neg ne10]
      rcases hw with ⟨rfl, rfl, rfl, rfl⟩ | ⟨f_, l, hf, hl, rfl, rfl, rfl, rfl⟩
      · rw [if_pos rfl]; exact ⟨_, rfl, rfl⟩
      · rw [if_neg (fun z_ => nI_pos (n := f_) (by omega) (by rw [z_]; decide))]; exact ⟨_, rfl, rfl⟩
    · rw [if_neg ne10, if_pos rfl]
      rcases hw with ⟨rfl, rfl, rfl, rfl⟩ | ⟨f_, l, hf, hl, rfl, rfl, rfl, rfl⟩ <;> exact ⟨_, rfl, rfl⟩
  | succ m_ ih_ =>
    intro a_ n_ least pair_ found low_ h1 h2 hw
    obtain ⟨n_, rfl⟩ : ∃ j_, n_ = j_ + 1 := ⟨n_ - 1, by omega⟩
    have e_ : nI a_ < nI (sn S_.1) := nI_lt (by omega) (by omega)
    rw [f_X11_closestWords_9, f_X12_wordsApart_9, e1_, e2_, if_pos e_, if_pos e_, nI_1, nm_eq, nm_eq]
    exact WA_in hX hM_ hok (by omega) (fun l p_ f_ o hl => ih_ (a_ + 1) n_ l p_ f_ o (by omega) (by omega) hl) m_ (a_ + 1) 2000 least pair_ found low_ (by omega) (by omega) hw
theorem mnI_nI {a_ b_ : Nat} (ha_ : a_ < 2 ^ 31) (hb_ : b_ < 2 ^ 31) : mnI (nI a_) (nI b_) = nI (if b_ < a_ then b_ else a_) := by
  unfold mnI
  by_cases h_ : b_ < a_
  · rw [if_pos (nI_lt h_ ha_), if_pos h_]
  · rw [if_neg (nI_nlt (by omega) (by omega)), if_neg h_]
theorem least_lp {hx hm_ : hp} {S_ : sst} (hX : RX hx S_) (hM_ : RM hm_ S_) (hok : SOK S_) {s_ : Nat} (hs : s_ < 1024) : ∀ m_ k_ n_ lx lm, ((k_ = 0 ∧ lx = 11 ∧ lm = 99) ∨ (lx = lm ∧ lx ≤ 10)) → (0 < k_ + m_) → (0 < k_ → lx = lm) → k_ + m_ = sn S_.1 → m_ < n_ → ∃ r_, r_ ≤ 10 ∧ f_X11_leastApart_5 hx n_ (nI s_) (nI lx) (nI k_) = some (nI r_) ∧ f_X12_leastApart_5 hm_ n_ (nI s_) (nI lm) (nI k_) = some (nI r_) := by
  have e1_ : hI hm_ 52 0 = nI (sn S_.1) := hM_.1.1.1
  have e2_ : hI hx 2 1 = nI (sn S_.1) := hX.1.1.1.1
  have hn8 := hok.1.1.1.1
  intro m_
  induction m_ with
  | zero =>
    intro k_ n_ lx lm hl h0 hk h1 h2
    obtain ⟨n_, rfl⟩ : ∃ j_, n_ = j_ + 1 := ⟨n_ - 1, by omega⟩
    have e_ : ¬ nI k_ < nI (sn S_.1) := nI_nlt (by omega) (by omega)
    have he := hk (by omega)
    subst he
    rw [f_X11_leastApart_5, f_X12_leastApart_5, e1_, e2_, if_neg e_, if_neg e_]
    exact ⟨lx, by omega, rfl, rfl⟩
  | succ m_ ih_ =>
    intro k_ n_ lx lm hl h0 hk h1 h2
    obtain ⟨n_, rfl⟩ : ∃ j_, n_ = j_ + 1 := ⟨n_ - 1, by omega⟩
    have hb_ : k_ < sn S_.1 := by omega
    have e_ : nI k_ < nI (sn S_.1) := nI_lt hb_ (by omega)
    have sb_ := hok.1.1.1.2 k_ hb_
    have hp := pop_le 10 (sW S_.1 k_ ^^^ s_)
    rw [f_X11_leastApart_5, f_X12_leastApart_5, e1_, e2_, if_pos e_, if_pos e_, bnr_of (X_get hX.1.1 hok.1.1 hb_), bnr_of (X_apart hs sb_), Nat.xor_comm s_, mnI_nI (by omega) (by omega), chk_of (vp_in_nI (n := k_) (N := 8) (by omega) (by decide)), nI_clamp (n := k_) (by omega), show aI hm_ 53 k_ = nI (sW S_.1 k_) from hM_.1.1.2 k_ hb_, bnr_of (M_bits_x sb_ hs), nm_eq, nm_eq, nI_1]
    unfold f_X12_leastApart_39
    by_cases hq : pop 10 (sW S_.1 k_ ^^^ s_) < lx
    · rw [if_pos hq, if_pos (nI_lt (show pop 10 (sW S_.1 k_ ^^^ s_) < lm by omega) (by omega)), nm_eq, nI_1]
      exact ih_ (k_ + 1) n_ _ _ (Or.inr ⟨rfl, hp⟩) (by omega) (fun _ => rfl) (by omega) (by omega)
    · have he : lx = lm := by omega
      rw [if_neg hq, if_neg (nI_nlt (by omega) (by omega)), nm_eq, nI_1]
      exact ih_ (k_ + 1) n_ _ _ (Or.inr ⟨he, by omega⟩) (by omega) (fun _ => he) (by omega) (by omega)
theorem least_eq {hx hm_ : hp} {S_ : sst} (hX : RX hx S_) (hM_ : RM hm_ S_) (hok : SOK S_) (hn : 0 < sn S_.1) {s_ : Nat} (hs : s_ < 1024) : ∃ r_, r_ ≤ 10 ∧ f_X11_leastApart hx (nI s_) = some (nI r_) ∧ f_X12_leastApart hm_ (nI s_) = some (nI r_) := least_lp hX hM_ hok hs (sn S_.1) 0 2000 11 99 (Or.inl ⟨rfl, rfl, rfl⟩) (by omega) (fun h_ => absurd h_ (Nat.lt_irrefl 0)) (Nat.zero_add _) (by have := hok.1.1.1.1; omega)
theorem new_lp {hx hm_ : hp} {S_ : sst} (hX : RX hx S_) (hM_ : RM hm_ S_) (hok : SOK S_) (hn : 0 < sn S_.1) {c_ : Int32} : ∀ m_ k_ n_ most best_, k_ + m_ = 1024 → m_ < n_ → ((k_ = 0 ∧ most = -1 ∧ best_ = nI 0) ∨ ∃ b_ mo, b_ < 1024 ∧ mo ≤ 10 ∧ best_ = nI b_ ∧ most = nI mo ∧ f_X12_leastApart hm_ (nI b_) = some (nI mo)) → ∃ b_ mo, b_ < 1024 ∧ f_X11_newSign_31 hx n_ c_ most best_ (nI k_) = some (if c_ = 0 then nI b_ else nI mo) ∧ f_X12_newSign_15 hm_ n_ best_ most (nI k_) = some (nI b_) ∧ f_X12_leastApart hm_ (nI b_) = some (nI mo) := by
  intro m_
  induction m_ with
  | zero =>
    intro k_ n_ most best_ h1 h2 hi_
    obtain ⟨n_, rfl⟩ : ∃ j_, n_ = j_ + 1 := ⟨n_ - 1, by omega⟩
    have e_ : ¬ nI k_ < (1024 : Int32) := nI_nlt (b := 1024) (by omega) (by omega)
    rcases hi_ with ⟨h0, -⟩ | ⟨b_, mo, hb_, hmo, rfl, rfl, hl⟩
    · omega
    · refine ⟨b_, mo, hb_, ?_, ?_, hl⟩
      · unfold f_X11_newSign_31 f_X11_newSign_74
        rw [if_neg e_]
        split <;> rfl
      · rw [f_X12_newSign_15, if_neg e_]
  | succ m_ ih_ =>
    intro k_ n_ most best_ h1 h2 hi_
    obtain ⟨n_, rfl⟩ : ∃ j_, n_ = j_ + 1 := ⟨n_ - 1, by omega⟩
    have e_ : nI k_ < (1024 : Int32) := nI_lt (b := 1024) (by omega) (by decide)
    obtain ⟨r_, hr, r1_, r2⟩ := least_eq hX hM_ hok hn (s_ := k_) (by omega)
    rw [f_X11_newSign_31, f_X12_newSign_15, if_pos e_, if_pos e_, bnr_of r1_, bnr_of r2]
    unfold f_X11_newSign_59 f_X12_newSign_43
    by_cases hq : most < nI r_
    · rw [if_pos hq, if_pos hq, nm_eq, nm_eq, nI_1]
      exact ih_ (k_ + 1) n_ _ _ (by omega) (by omega) (Or.inr ⟨k_, r_, by omega, hr, rfl, rfl, r2⟩)
    · rw [if_neg hq, if_neg hq, nm_eq, nm_eq, nI_1]
      refine ih_ (k_ + 1) n_ _ _ (by omega) (by omega) (Or.inr ?_)
      rcases hi_ with ⟨h0, rfl, -⟩ | hi_
      · exact absurd (show (-1 : Int32) < nI r_ by
          rw [Int32.lt_iff_toInt_lt, nI_toInt (by omega)]
          have : ((-1 : Int32)).toInt = -1 := rfl
          omega) hq
      · exact hi_
theorem s_told {hx hm_ : hp} (H_ : Sim hx hm_) (a_ : Int32) : ∃ r_, f_X11_told hx a_ = some r_ ∧ f_X12_told hm_ a_ = some r_ := by
  obtain ⟨S_, hX, hM_, hok, ht⟩ := H_
  have e1_ : hI hm_ 52 0 = nI (sn S_.1) := hM_.1.1.1
  have e2_ : hI hx 2 1 = nI (sn S_.1) := hX.1.1.1.1
  have b0 : hI hm_ 52 2 = nI (sH S_.1) := hM_.1.2.2.1
  have b1 : hI hx 1 5 = nI (sH S_.1) := hX.1.1.2.2.1
  have hn8 := hok.1.1.1.1
  have c9_ : (9 : Int32) + nI (sn S_.1) = nI (9 + sn S_.1) := by rw [show (9 : Int32) = nI 9 from rfl, nI_add]
  unfold f_X11_told f_X12_told f_X11_told_64 f_X11_told_79 f_X11_told_117 f_X11_told_118 f_X12_told_115
  rw [bnr_of M_in, e1_, c9_, b0, b1, bnr_of (X_near hX.1.1), bnr_of (M_near hM_.1 hok.1.1)]
  rcases arg_split a_ 10 (by decide) with ⟨k_, hk, rfl⟩ | ha_
  · rw [if_pos (show nI k_ < (10 : Int32) ∨ nI (9 + sn S_.1) < nI k_ from Or.inl (nI_lt (b := 10) hk (by decide))), if_pos rfl]
    rcases (show k_ = 0 ∨ k_ = 1 ∨ k_ = 2 ∨ k_ = 3 ∨ k_ = 4 ∨ k_ = 5 ∨ (6 ≤ k_) by omega) with rfl | rfl | rfl | rfl | rfl | rfl | h6
    · exact ⟨_, rfl, rfl⟩
    · exact ⟨_, rfl, rfl⟩
    · obtain ⟨r_, r1_, r2⟩ := WA_out hX hM_ hok (Or.inl ⟨rfl, rfl⟩) (sn S_.1) 0 2000 _ _ _ _ (Nat.zero_add _) (by omega) (Or.inl ⟨rfl, rfl, rfl, rfl⟩)
      have r1_ : f_X11_closestWords hx (0 : Int32) = some r_ := r1_
      have r2 : f_X12_wordsApart hm_ (1 : Int32) = some r_ := r2
      show ∃ r_, (bnr (f_X11_closestWords hx (0 : Int32)) fun r8 => some r8) = some r_ ∧ (bnr (f_X12_wordsApart hm_ (1 : Int32)) fun r9 => some r9) = some r_
      rw [bnr_of r1_, bnr_of r2]
      exact ⟨r_, rfl, rfl⟩
    · obtain ⟨r_, r1_, r2⟩ := WA_out hX hM_ hok (Or.inr ⟨rfl, rfl⟩) (sn S_.1) 0 2000 _ _ _ _ (Nat.zero_add _) (by omega) (Or.inl ⟨rfl, rfl, rfl, rfl⟩)
      have r1_ : f_X11_closestWords hx (1 : Int32) = some r_ := r1_
      have r2 : f_X12_wordsApart hm_ (0 : Int32) = some r_ := r2
      show ∃ r_, (bnr (f_X11_closestWords hx (1 : Int32)) fun r8 => some r8) = some r_ ∧ (bnr (f_X12_wordsApart hm_ (0 : Int32)) fun r9 => some r9) = some r_
      rw [bnr_of r1_, bnr_of r2]
      exact ⟨r_, rfl, rfl⟩
    · show ∃ r_, (bnr (f_X11_newSign hx (0 : Int32)) fun r15 => some r15) = some r_ ∧ (bnr (f_X12_newSign hm_) fun r15 => some r15) = some r_
      unfold f_X11_newSign f_X12_newSign f_X11_newSign_23
      rw [e1_, e2_]
      by_cases h0 : sn S_.1 = 0
      · rw [h0]; exact ⟨_, rfl, rfl⟩
      · obtain ⟨b_, mo, hb_, y1, y2, y3⟩ := new_lp hX hM_ hok (by omega) (c_ := 0) 1024 0 2000 (-1) (nI 0) rfl (by decide) (Or.inl ⟨rfl, rfl, rfl⟩)
        have y1 : f_X11_newSign_31 hx 2000 (0 : Int32) (-1 : Int32) (0 : Int32) (0 : Int32) = some (nI b_) := y1
        have y2 : f_X12_newSign_15 hm_ 2000 (0 : Int32) (-1 : Int32) (0 : Int32) = some (nI b_) := y2
        have e3_ : ¬ nI (sn S_.1) = 0 := nI_ne0 (by omega) (by omega)
        rw [if_neg e3_, if_neg e3_, bnr_of y1, bnr_of y2]
        exact ⟨_, rfl, rfl⟩
    · show ∃ r_, (bnr (f_X11_newSign hx (1 : Int32)) fun r15 => some r15) = some r_ ∧ (if nI (sn S_.1) = 0 then some (-5 : Int32) else bnr (f_X12_newSign hm_) fun r20 => bnr (f_X12_leastApart hm_ r20) fun r22 => some r22) = some r_
      unfold f_X11_newSign f_X12_newSign f_X11_newSign_23
      rw [e1_, e2_]
      by_cases h0 : sn S_.1 = 0
      · rw [h0]; exact ⟨_, rfl, rfl⟩
      · obtain ⟨b_, mo, hb_, y1, y2, y3⟩ := new_lp hX hM_ hok (by omega) (c_ := 1) 1024 0 2000 (-1) (nI 0) rfl (by decide) (Or.inl ⟨rfl, rfl, rfl⟩)
        have y1 : f_X11_newSign_31 hx 2000 (1 : Int32) (-1 : Int32) (0 : Int32) (0 : Int32) = some (nI mo) := y1
        have y2 : f_X12_newSign_15 hm_ 2000 (0 : Int32) (-1 : Int32) (0 : Int32) = some (nI b_) := y2
        have e3_ : ¬ nI (sn S_.1) = 0 := nI_ne0 (by omega) (by omega)
        rw [if_neg e3_, if_neg e3_, if_neg e3_, bnr_of y1, bnr_of y2, bnr_of y3]
        exact ⟨_, rfl, rfl⟩
    · rcases (show k_ = 6 ∨ k_ = 7 ∨ k_ = 8 ∨ k_ = 9 by omega) with rfl | rfl | rfl | rfl <;> exact ⟨_, rfl, rfl⟩
  · have n_ : ∀ k_, k_ < 10 → ¬ a_ = nI k_ := fun k_ hk z_ => by rw [z_] at ha_; exact arg_no hk (by decide) ha_
    have n0_ : ¬ a_ = (0 : Int32) := n_ 0 (by decide)
    have n1_ : ¬ a_ = (1 : Int32) := n_ 1 (by decide)
    have n2_ : ¬ a_ = (2 : Int32) := n_ 2 (by decide)
    have n3_ : ¬ a_ = (3 : Int32) := n_ 3 (by decide)
    have n4_ : ¬ a_ = (4 : Int32) := n_ 4 (by decide)
    have n5_ : ¬ a_ = (5 : Int32) := n_ 5 (by decide)
    rw [if_neg n0_, if_neg n1_, if_neg n2_, if_neg n3_, if_neg n4_, if_neg n5_, if_neg n0_, if_neg n1_, if_neg n2_, if_neg n3_, if_neg n4_, if_neg n5_]
    by_cases a0_ : a_ < 0
    · have a10 : a_ < (10 : Int32) := by
        rw [Int32.lt_iff_toInt_lt] at a0_ ⊢
        have g1 : ((0 : Int32)).toInt = 0 := rfl
        have g2 : ((10 : Int32)).toInt = 10 := rfl
        omega
      rw [if_pos a10, if_pos (Or.inl a10), if_pos rfl]
      exact ⟨_, rfl, rfl⟩
    · have a10 : ¬ a_ < (10 : Int32) := lt_of_no ha_ a0_
      obtain ⟨q_, hq, rfl⟩ := nI_of a0_
      have q10_ : 10 ≤ q_ := by
        rcases Nat.lt_or_ge q_ 10 with h_ | h_
        · exact absurd (nI_lt (b := 10) h_ (by decide)) a10
        · exact h_
      have sb_ : nI q_ - (10 : Int32) = nI (q_ - 10) := by rw [show (10 : Int32) = nI 10 from rfl, pk_sub q10_]
      rw [if_neg a10, sb_, bnr_of (X_isWord hX.1.1 hok.1.1)]
      by_cases hw : q_ - 10 < sn S_.1
      · have a9 : ¬ (nI q_ < (10 : Int32) ∨ nI (9 + sn S_.1) < nI q_) := fun hh => hh.elim a10 (nI_nlt (by omega) (by omega))
        rw [if_neg (arg_no hw (by omega)), if_neg ne10, if_neg a9, if_neg ne10, bnr_of (X_get hX.1.1 hok.1.1 hw), chk_of (vp_in_nI (n := q_ - 10) (N := 8) (by omega) (by decide)), nI_clamp (n := q_ - 10) (by omega), show aI hm_ 53 (q_ - 10) = nI (sW S_.1 (q_ - 10)) from hM_.1.1.2 _ hw]
        exact ⟨_, rfl, rfl⟩
      · rw [if_pos (Or.inr (nI_le (by omega) (by omega))), if_pos rfl, if_pos (Or.inr (nI_lt (by omega) hq)), if_pos rfl]
        exact ⟨_, rfl, rfl⟩
theorem s_judge {hx hm_ : hp} (H_ : Sim hx hm_) (a_ b_ : Int32) : ∃ r_, f_X11_judge hx a_ b_ = some r_ ∧ f_X12_judge hm_ a_ b_ = some r_ := by
  obtain ⟨S_, hX, hM_, hok, ht⟩ := H_
  have e1_ : hI hm_ 52 0 = nI (sn S_.1) := hM_.1.1.1
  have e2_ : hI hx 2 1 = nI (sn S_.1) := hX.1.1.1.1
  have hn8 := hok.1.1.1.1
  unfold f_X11_judge f_X12_judge f_X11_judge_35 f_X12_judge_32
  rw [bnr_of X_isTape, bnr_of M_isTape]
  rcases arg_split a_ 6 (by decide) with ⟨t_, ht6, rfl⟩ | hx0
  · obtain ⟨t1_, t2_, t3_, t4_, t5_⟩ := ht t_ ht6
    obtain ⟨l, l1, l2, l3, l4⟩ := tpO_n t4_
    obtain ⟨k1_, k2_, k3_, k4_⟩ := tapeK (h_ := hx) ht6
    have hin : vp_in (nI t_) 6 := vp_in_nI ht6 (by decide)
    have hA := fun (y_ : Option Int32) => ckA_of (b := 1) (h := hx) (i := 39 + 2 * t_ + 1) (e := 3) (n := 60) (a := y_) k3_ k4_ (by decide)
    have go_ : ∀ m_ k_ n_, k_ + m_ = sn S_.1 → m_ < n_ → ∃ r_, f_X11_judge_38 hx n_ b_ (39 + 2 * t_) (nI k_) = some r_ ∧ f_X12_judge_34 hm_ n_ (nI t_) b_ (nI k_) = some r_ := by
      intro m_
      induction m_ with
      | zero =>
        intro k_ n_ h1 h2
        obtain ⟨n_, rfl⟩ : ∃ j_, n_ = j_ + 1 := ⟨n_ - 1, by omega⟩
        have e_ : ¬ nI k_ < nI (sn S_.1) := nI_nlt (by omega) (by omega)
        rw [f_X11_judge_38, f_X12_judge_34, e1_, e2_, if_neg e_, if_neg e_]
        exact ⟨_, rfl, rfl⟩
      | succ m_ ih_ =>
        intro k_ n_ h1 h2
        obtain ⟨n_, rfl⟩ : ∃ j_, n_ = j_ + 1 := ⟨n_ - 1, by omega⟩
        have hk : k_ < sn S_.1 := by omega
        have e_ : nI k_ < nI (sn S_.1) := nI_lt hk (by omega)
        have hs := hok.1.1.1.2 k_ hk
        unfold f_X11_judge_38 f_X12_judge_34 f_X11_judge_72 f_X12_judge_69
        rw [e1_, e2_, if_pos e_, if_pos e_, ckO_of k1_ k2_, bnr_of (X6_has ht6 l2 l1), chk_of hin, nI_clamp (n := t_) (by omega), t2_, chk_of hin, t3_, l2]
        rcases arg_split b_ l (by omega) with ⟨j_, hj, rfl⟩ | hb_
        · have s0_ : ¬ hI hx (39 + 2 * t_) 1 < 0 := fun hc_ => by have := l3 hc_; omega
          rw [if_neg (arg_no hj (by omega)), if_neg ne10, ckO_of k1_ k2_, nI_add, bnr_of (X6_has ht6 l2 l1), if_neg s0_, if_neg (nI_pos (n := j_) (by omega))]
          have lim : (nI l - nI k_) - (1 : Int32) < nI j_ ↔ l ≤ j_ + k_ := by
            have e3_ : (nI l - nI k_).toInt = (l : Int) - k_ := pk_sub_toInt (by omega) (by omega)
            have e4_ : ((nI l - nI k_) - (1 : Int32)).toInt = (l : Int) - k_ - 1 := by
              have : (nI l - nI k_) - (1 : Int32) = nI l - nI (k_ + 1) := by
                rw [← nI_1]
                apply Int32.toBitVec_inj.mp
                show (nI l).toBitVec - (nI k_).toBitVec - (1 : Int32).toBitVec = (nI l).toBitVec - ((nI k_).toBitVec + (1 : Int32).toBitVec)
                rw [BitVec.sub_eq_add_neg, BitVec.sub_eq_add_neg, BitVec.sub_eq_add_neg, BitVec.neg_add, BitVec.sub_eq_add_neg, BitVec.add_assoc]
              rw [this, pk_sub_toInt (by omega) (by omega)]
              omega
            rw [Int32.lt_iff_toInt_lt, e4_, nI_toInt (by omega)]
            omega
          by_cases hjk : j_ + k_ < l
          · rw [if_neg (arg_no hjk (by omega)), if_neg ne10, ckO_of k1_ k2_, (hA _).1, (hA none).2, chk_of (vp_in_nI (n := j_ + k_) (N := 60) (by omega) (by decide)), nI_clamp (n := j_ + k_) (by omega), bnr_of (X_get hX.1.1 hok.1.1 hk), if_neg (show ¬ nI l - nI k_ - (1 : Int32) < nI j_ from fun z_ => by have := lim.mp z_; omega), mul60, nI_add, nI_add, chk_of (vp_in_nI (n := 60 * t_ + j_ + k_) (N := 360) (by omega) (by decide)), chk_of (vp_in_nI (n := k_) (N := 8) (by omega) (by decide)), nI_clamp (n := 60 * t_ + j_ + k_) (by omega), nI_clamp (n := k_) (by omega), show aI hm_ 53 k_ = nI (sW S_.1 k_) from hM_.1.1.2 k_ hk, Nat.add_assoc (60 * t_) j_ k_, t5_ (j_ + k_) (by omega), show 40 + 2 * t_ = 39 + 2 * t_ + 1 by omega]
            by_cases hq : lg_cmp (aL hx (39 + 2 * t_ + 1) (j_ + k_)) ((nI (sW S_.1 k_)).toInt64) = 0
            · rw [if_pos hq, if_pos hq, nm_eq, nm_eq, nI_1]
              exact ih_ (k_ + 1) n_ (by omega) (by omega)
            · rw [if_neg hq, if_neg hq]
              exact ⟨_, rfl, rfl⟩
          · rw [if_pos (Or.inr (nI_le (by omega) (by omega))), if_pos rfl, if_pos (lim.mpr (by omega))]
            exact ⟨_, rfl, rfl⟩
        · rw [if_pos hb_, if_pos rfl]
          by_cases s0_ : hI hx (39 + 2 * t_) 1 < 0
          · rw [if_pos s0_]; exact ⟨_, rfl, rfl⟩
          · rw [if_neg s0_]
            by_cases b0 : b_ < 0
            · rw [if_pos b0]; exact ⟨_, rfl, rfl⟩
            · rw [if_neg b0]
              obtain ⟨q_, hq, rfl⟩ := nI_of b0
              have ql : l ≤ q_ := by
                rcases Nat.lt_or_ge q_ l with h_ | h_
                · exact absurd hb_ (arg_no h_ (by omega))
                · exact h_
              have lim : (nI l - nI k_) - (1 : Int32) < nI q_ := by
                have e4_ : ((nI l - nI k_) - (1 : Int32)).toInt = (l : Int) - k_ - 1 := by
                  have : (nI l - nI k_) - (1 : Int32) = nI l - nI (k_ + 1) := by
                    rw [← nI_1]
                    apply Int32.toBitVec_inj.mp
                    show (nI l).toBitVec - (nI k_).toBitVec - (1 : Int32).toBitVec = (nI l).toBitVec - ((nI k_).toBitVec + (1 : Int32).toBitVec)
                    rw [BitVec.sub_eq_add_neg, BitVec.sub_eq_add_neg, BitVec.sub_eq_add_neg, BitVec.neg_add, BitVec.sub_eq_add_neg, BitVec.add_assoc]
                  rw [this, pk_sub_toInt (by omega) (by omega)]
                  omega
                rw [Int32.lt_iff_toInt_lt, e4_, nI_toInt hq]
                omega
              rw [if_pos lim]; exact ⟨_, rfl, rfl⟩
    rw [if_neg (arg_no ht6 (by decide)), if_neg ne10, if_neg ne10, chk_of hin, nI_clamp (n := t_) (by omega), onO_of t1_, ckO_of k1_ k2_, chk_of hin, t2_, chk_of hin]
    have g0 := go_ (sn S_.1) 0 2000 (Nat.zero_add _) (by omega)
    rcases l4 with ⟨s1_, s2_⟩ | ⟨z_, z5, s1_, s2_, s3_⟩
    · rw [if_pos s1_, if_pos s2_]; exact g0
    · rw [if_neg s3_, if_neg s2_, ckO_of k1_ k2_]
      by_cases hs1 : hI hx (39 + 2 * t_) 1 = 1
      · rw [if_pos hs1, if_pos hs1]; exact g0
      · rw [if_neg hs1, if_neg hs1]; exact ⟨_, rfl, rfl⟩
  · rw [if_pos hx0, if_pos rfl, if_pos rfl]
    exact ⟨_, rfl, rfl⟩
