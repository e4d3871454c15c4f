-- ===== clauses and whole texts: the reference's way_ =====
def QC (f_ c_ : Nat) (a_ k_ : Nat) : Prop := ((60 ≤ a_ ∧ a_ ≤ 63) ∧ k_ = c_) ∨ (a_ = 64 ∧ 100 * f_ ≤ k_) ∨ a_ = 65
def QT (f_ : Nat) (a_ k_ : Nat) : Prop := (a_ = 59 ∧ k_ = f_) ∨ ((60 ≤ a_ ∧ a_ ≤ 63) ∧ 10 * f_ ≤ k_) ∨ (a_ = 64 ∧ 100 * f_ ≤ k_) ∨ a_ = 65
theorem QC_no {f_ c_ : Nat} : ∀ k_, ¬ QC f_ c_ 58 k_ ∧ ¬ QC f_ c_ 66 k_ := fun k_ => ⟨by unfold QC; omega, by unfold QC; omega⟩
theorem QT_no {f_ : Nat} : ∀ k_, ¬ QT f_ 58 k_ ∧ ¬ QT f_ 66 k_ := fun k_ => ⟨by unfold QT; omega, by unfold QT; omega⟩
theorem QE_C {f_ c_ : Nat} : ∀ a_ k_, QE f_ c_ a_ k_ → QC f_ c_ a_ k_ := fun a_ k_ h_ => by unfold QE at h_; unfold QC; omega
theorem QC_T {f_ c_ : Nat} (hc_ : 10 * f_ ≤ c_) : ∀ a_ k_, QC f_ c_ a_ k_ → QT f_ a_ k_ := fun a_ k_ h_ => by unfold QC at h_; unfold QT; omega
theorem M_E {h_ : hp} {f_ c_ L_ a_ : Nat} {T : Nat → Nat} {o : List Nat} (hf : f_ < 6) (hc_ : c_ < 60) (B_ : bM h_ T L_) (ha_ : hI h_ 52 11 = nI a_) (h21 : hI h_ 52 21 = nI (100 * f_ + o.length)) (hst : ∀ i_ d_, o[i_]? = some d_ → aI h_ 64 (100 * f_ + i_) = stepM d_) (haL : a_ ≤ L_) (ho : o.length ≤ a_) {b_ : Nat} {ot : Option (List Nat)} (he : pEi T L_ (pSi T L_ 4) a_ = (b_, ot)) : (ot = none → ∃ h', f_X12_takesE h_ (nI c_) = some (h', 0) ∧ agQ (QC f_ c_) h_ h' ∧ hI h' 52 11 = nI b_) ∧ ∀ t_, ot = some t_ → ∃ h', f_X12_takesE h_ (nI c_) = some (h', 1) ∧ agQ (QC f_ c_) h_ h' ∧ hI h' 52 11 = nI b_ ∧ hI h' 52 21 = nI (100 * f_ + (o ++ t_).length) ∧ aI h' 62 c_ = nI (100 * f_ + o.length) ∧ aI h' 63 c_ = nI (100 * f_ + (o ++ t_).length) ∧ (∀ i_ d_, (o ++ t_)[i_]? = some d_ → aI h' 64 (100 * f_ + i_) = stepM d_) ∧ (o ++ t_).length ≤ b_ ∧ b_ ≤ L_ ∧ ∀ y_ k_, y_ ≠ 62 → y_ ≠ 63 → y_ ≠ 64 → y_ ≠ 65 → aI h' y_ k_ = aI h_ y_ k_ := by
  have hL := B_.2.2.2
  unfold f_X12_takesE
  rw [nm_eq, nm_eq, chk_of (vp_in_nI (n := c_) (N := 60) hc_ (by decide)), nm_eq, nI_clamp (by omega), hI_sI, if_neg (by rintro ⟨-, hh⟩; exact absurd hh (by decide)), hI_sI, if_neg (by rintro ⟨-, hh⟩; exact absurd hh (by decide)), h21]
  generalize hg : tI (sI (sI h_ 52 22 0) 52 23 0) 62 c_ (nI (100 * f_ + o.length)) = g_
  have x0_ : agQ (QC f_ c_) h_ g_ := by rw [← hg]; exact ((agQ_sI (by omega)).tr (agQ_sI (by omega))).tr (agQ_tI (Or.inl ⟨by omega, rfl⟩))
  have g62 : aI g_ 62 c_ = nI (100 * f_ + o.length) := by rw [← hg, aI_tI, if_pos ⟨rfl, rfl⟩]
  have gy : ∀ y_ k_, y_ ≠ 62 → aI g_ y_ k_ = aI h_ y_ k_ := fun y_ k_ hy => by rw [← hg, aI_tI, if_neg (by rintro ⟨hh, -⟩; exact hy hh)]; rfl
  have B0 := bM_ag QC_no B_ x0_
  have H_ : qM g_ f_ c_ L_ a_ [] o g_ := by
    refine ⟨agQ.rf, ?_, ?_, ?_, ?_, ⟨fun i_ hi_ => by simp at hi_, fun x_ hx => by simp at hx⟩, fun i_ d_ hi_ => ?_, haL, by simp only [List.length_nil]; omega⟩
    · rw [← hg, hI_tI, hI_sI, if_neg (by rintro ⟨-, hh⟩; exact absurd hh (by decide)), hI_sI, if_neg (by rintro ⟨-, hh⟩; exact absurd hh (by decide))]; exact ha_
    · rw [← hg, hI_tI, hI_sI, if_neg (by rintro ⟨-, hh⟩; exact absurd hh (by decide)), hI_sI, if_neg (by rintro ⟨-, hh⟩; exact absurd hh (by decide))]; exact h21
    · rw [← hg, hI_tI, hI_sI, if_neg (by rintro ⟨-, hh⟩; exact absurd hh (by decide)), hI_sI, if_pos ⟨rfl, rfl⟩]; rfl
    · rw [← hg, hI_tI, hI_sI, if_pos ⟨rfl, rfl⟩]; rfl
    · rw [gy 64 _ (by decide)]; exact hst i_ d_ hi_
  obtain ⟨f1_, f2_⟩ := pE_run hL o he
  obtain ⟨r1_, r2⟩ := pE_D.2 a_ b_ ot haL he
  refine ⟨fun hn => ?_, fun t_ ht => ?_⟩
  · obtain ⟨g1, k_, g2, g3_⟩ := f1_ hn
    obtain ⟨o', g4⟩ := g3_ (2000 - k_)
    rw [show 2000 - k_ + k_ = 2000 by omega] at g4
    obtain ⟨h', y1, y2, -⟩ := M_run hf hc_ B0 2000 true a_ [] o g_ H_ false b_ o' g4
    exact ⟨h', y1, x0_.tr (agQ_up QE_C y2.1), y2.2⟩
  · obtain ⟨g1, k_, g2, g3_⟩ := f2_ t_ ht
    have g4 := g3_ (2000 - k_)
    rw [show 2000 - k_ + k_ = 2000 by omega] at g4
    obtain ⟨h', y1, y2, y3⟩ := M_run hf hc_ B0 2000 true a_ [] o g_ H_ true b_ (o ++ t_) g4
    obtain ⟨z1, z2⟩ := y3 rfl
    obtain ⟨u1_, u2_, u3, u4_, u5, -, u7, u8, u9⟩ := z1
    refine ⟨h', y1, x0_.tr (agQ_up QE_C y2.1), y2.2, u3, ?_, z2, u7, by simp only [List.length_nil] at u9; omega, u8, fun y_ j_ e1_ e2_ e3_ e4_ => ?_⟩
    · rw [u1_.2.2.2 62 c_ (by unfold QE; omega)]; exact g62
    · rw [u1_.2.2.2 y_ j_ (by unfold QE; omega), gy y_ j_ e1_]
/-- only the place of_ reading has_ changed -/
def agA (h_ h' : hp) : Prop := agQ (fun _ _ => False) h_ h' ∧ ∀ k_, k_ ≠ 11 → hI h' 52 k_ = hI h_ 52 k_
theorem agA.rf {h_ : hp} : agA h_ h_ := ⟨agQ.rf, fun _ _ => rfl⟩
theorem agA.tr {h_ h1 h2 : hp} (x_ : agA h_ h1) (y_ : agA h1 h2) : agA h_ h2 := ⟨x_.1.tr y_.1, fun k_ hk => (y_.2 k_ hk).trans (x_.2 k_ hk)⟩
theorem agA_sI {h_ : hp} {v_ : Int32} : agA h_ (sI h_ 52 11 v_) := ⟨agQ_sI (Or.inl rfl), fun k_ hk => by rw [hI_sI, if_neg (by rintro ⟨-, hh⟩; exact hk hh)]⟩
theorem agA.aI {h_ h' : hp} (x_ : agA h_ h') : ∀ y_ k_, aI h' y_ k_ = aI h_ y_ k_ := fun y_ k_ => x_.1.2.2.2 y_ k_ (fun hc_ => hc_)
theorem agA.q {Q_ : Nat → Nat → Prop} {h_ h' : hp} (x_ : agA h_ h') : agQ Q_ h_ h' := agQ_up (fun _ _ hc_ => hc_.elim) x_.1
theorem agA.bM {h_ h' : hp} {T : Nat → Nat} {L_ : Nat} (B_ : bM h_ T L_) (x_ : agA h_ h') : bM h' T L_ := bM_ag (fun _ => ⟨fun hc_ => hc_, fun hc_ => hc_⟩) B_ x_.1
theorem M_word {T : Nat → Nat} {L_ v_ : Nat} (hv : v_ < 4) : ∀ j_ a_ h_ n_, j_ ≤ 4 → j_ < n_ → bM h_ T L_ → hI h_ 52 11 = nI a_ → a_ ≤ L_ → ∀ b_ ok_, pWd T L_ v_ j_ a_ = (b_, ok_) → ∃ h', agA h_ h' ∧ hI h' 52 11 = nI (if ok_ then (if nx T L_ b_ = 32 then b_ + 1 else b_) else b_) ∧ f_X12_takesWord_2 n_ h_ (nI (4 * v_)) (4 : Int32) (nI (4 - j_)) = some (h', if ok_ then (if nx T L_ b_ = 32 then 1 else 0) else 0) := by
  intro j_
  induction j_ with
  | zero =>
    intro a_ h_ n_ hj hn B_ ha_ haL b_ ok_ he
    obtain ⟨n_, rfl⟩ : ∃ m_, n_ = m_ + 1 := ⟨n_ - 1, by omega⟩
    have he : (a_, true) = (b_, ok_) := he
    obtain ⟨rfl, rfl⟩ := Prod.mk.inj he
    have ft : f_X12_takes h_ (32 : Int32) = _ := M_takes (ch_ := 32) B_ ha_ haL (by decide)
    rw [f_X12_takesWord_2, if_neg (show ¬ nI (4 - 0) < (4 : Int32) by decide), if_pos rfl, if_pos rfl]
    by_cases c1_ : nx T L_ a_ = 32
    · rw [if_pos c1_] at ft ⊢
      rw [if_pos c1_, bnd_of ft]
      exact ⟨_, agA_sI, by rw [hI_sI, if_pos ⟨rfl, rfl⟩], rfl⟩
    · rw [if_neg c1_] at ft ⊢
      rw [if_neg c1_, bnd_of ft]
      exact ⟨h_, agA.rf, ha_, rfl⟩
  | succ j_ ih_ =>
    intro a_ h_ n_ hj hn B_ ha_ haL b_ ok_ he
    obtain ⟨n_, rfl⟩ : ∃ m_, n_ = m_ + 1 := ⟨n_ - 1, by omega⟩
    rw [pWd] at he
    have hlt := lets_lt (4 * v_ + (3 - j_)) (by omega)
    have e1_ : nI (4 * v_) + nI (4 - (j_ + 1)) = nI (4 * v_ + (3 - j_)) := by rw [nI_add]; exact congrArg nI (by omega)
    have e2_ : nI (4 - (j_ + 1)) + (1 : Int32) = nI (4 - j_) := by rw [nI_1]; exact congrArg nI (by omega)
    have hle : aI h_ 66 (4 * v_ + (3 - j_)) = nI (lets.getD (4 * v_ + (3 - j_)) 0) := by
      refine B_.2.2.1 _ _ ?_
      have hl : 4 * v_ + (3 - j_) < lets.length := by show _ < 16; omega
      rw [List.getElem?_eq_getElem hl, List.getD_eq_getElem?_getD, List.getElem?_eq_getElem hl]; rfl
    have ft := M_takes B_ ha_ haL hlt
    rw [f_X12_takesWord_2, if_pos (show nI (4 - (j_ + 1)) < (4 : Int32) from nI_lt (b := 4) (by omega) (by decide)), e1_, chk_of (vp_in_nI (n := 4 * v_ + (3 - j_)) (N := 16) (by omega) (by decide)), nI_clamp (by omega), hle]
    by_cases hc_ : nx T L_ a_ = lets.getD (4 * v_ + (3 - j_)) 0
    · have hl := nx_le (T := T) (L := L_) (a := a_) (by omega)
      rw [if_pos hc_] at he ft
      rw [bnd_of ft, if_neg ne10, e2_, nm_eq]
      obtain ⟨h', y1, y2, y3⟩ := ih_ (a_ + 1) (sI h_ 52 11 (nI (a_ + 1))) n_ (by omega) (by omega) (agA_sI.bM B_) (by rw [hI_sI, if_pos ⟨rfl, rfl⟩]) hl b_ ok_ he
      exact ⟨h', agA_sI.tr y1, y2, y3⟩
    · rw [if_neg hc_] at he ft
      obtain ⟨rfl, rfl⟩ := Prod.mk.inj he
      rw [bnd_of ft, if_pos rfl]
      exact ⟨h_, agA.rf, ha_, rfl⟩
/-- the reader's state between clauses -/
def cM (h00 : hp) (f_ L_ a_ : Nat) (C_ : List cla) (h_ : hp) : Prop := agQ (QT f_) h00 h_ ∧ hI h_ 52 11 = nI a_ ∧ hI h_ 52 21 = nI (100 * f_ + (flat C_).length) ∧ (∀ k_ c_, C_[k_]? = some c_ → aI h_ 60 (10 * f_ + k_) = nI c_.1 ∧ aI h_ 61 (10 * f_ + k_) = nI c_.2.1 ∧ (c_.1 = 3 ∨ (aI h_ 62 (10 * f_ + k_) = nI (100 * f_ + offs C_ k_) ∧ aI h_ 63 (10 * f_ + k_) = nI (100 * f_ + offs C_ (k_ + 1))))) ∧ (∀ i_ d_, (flat C_)[i_]? = some d_ → aI h_ 64 (100 * f_ + i_) = stepM d_) ∧ a_ ≤ L_ ∧ (flat C_).length ≤ a_
theorem M_head {h_ : hp} {c_ a_ : Nat} {T : Nat → Nat} {L_ : Nat} (hc_ : c_ < 60) (B_ : bM h_ T L_) (ha_ : hI h_ 52 11 = nI a_) (haL : a_ ≤ L_) : ∃ v_, v_ < 4 ∧ (∀ w_, fV (nx T L_ a_) = some w_ → w_ = v_) ∧ (fV (nx T L_ a_) = none → v_ = 3) ∧ ∃ h1, h1 = tI h_ 60 c_ (nI v_) ∧ f_X12_takesHead h_ (nI c_) = bnd (f_X12_takesWord_2 2000 h1 (nI (4 * v_)) (4 : Int32) (0 : Int32)) fun h6 r7 => ckZ r7 (some (h6, r7)) := by
  have n0_ := nx_lt (L_ := L_) (a_ := a_) (bM_T B_)
  have N_ : ∀ ch_, ch_ < 128 → (nxI (nx T L_ a_) = nI ch_ ↔ nx T L_ a_ = ch_) := fun ch_ hch => nxI_eq n0_ hch
  unfold f_X12_takesHead f_X12_takesWord
  rw [bnr_of (M_next B_ ha_ haL)]
  by_cases c1_ : nx T L_ a_ = 111
  · refine ⟨0, by decide, fun w_ hw => ?_, fun hn => ?_, _, rfl, ?_⟩
    · rw [c1_] at hw; exact (Option.some.inj hw).symm
    · rw [c1_] at hn; cases hn
    · rw [if_pos (show nxI (nx T L_ a_) = (111 : Int32) from (N_ 111 (by decide)).mpr c1_), chk_of (vp_in_nI (n := c_) (N := 60) hc_ (by decide)), nm_eq, nI_clamp (by omega)]; rfl
  · rw [if_neg (show ¬ nxI (nx T L_ a_) = (111 : Int32) from fun z_ => c1_ ((N_ 111 (by decide)).mp z_))]
    by_cases c2_ : nx T L_ a_ = 115
    · refine ⟨1, by decide, fun w_ hw => ?_, fun hn => ?_, _, rfl, ?_⟩
      · rw [c2_] at hw; exact (Option.some.inj hw).symm
      · rw [c2_] at hn; cases hn
      · rw [if_pos (show nxI (nx T L_ a_) = (115 : Int32) from (N_ 115 (by decide)).mpr c2_), chk_of (vp_in_nI (n := c_) (N := 60) hc_ (by decide)), nm_eq, nI_clamp (by omega)]; rfl
    · rw [if_neg (show ¬ nxI (nx T L_ a_) = (115 : Int32) from fun z_ => c2_ ((N_ 115 (by decide)).mp z_))]
      by_cases c3_ : nx T L_ a_ = 116
      · refine ⟨2, by decide, fun w_ hw => ?_, fun hn => ?_, _, rfl, ?_⟩
        · rw [c3_] at hw; exact (Option.some.inj hw).symm
        · rw [c3_] at hn; cases hn
        · rw [if_pos (show nxI (nx T L_ a_) = (116 : Int32) from (N_ 116 (by decide)).mpr c3_), chk_of (vp_in_nI (n := c_) (N := 60) hc_ (by decide)), nm_eq, nI_clamp (by omega)]; rfl
      · rw [if_neg (show ¬ nxI (nx T L_ a_) = (116 : Int32) from fun z_ => c3_ ((N_ 116 (by decide)).mp z_)), chk_of (vp_in_nI (n := c_) (N := 60) hc_ (by decide)), nm_eq, nI_clamp (by omega)]
        refine ⟨3, by decide, fun w_ hw => ?_, fun _ => rfl, _, rfl, rfl⟩
        unfold fV at hw
        rw [if_neg c1_, if_neg c2_, if_neg c3_] at hw
        split at hw
        · exact (Option.some.inj hw).symm
        · cases hw
theorem ckZ_b {α : Type} {r_ : Int32} {a_ : Option α} (hr : r_ = 0 ∨ r_ = 1) : ckZ r_ a_ = a_ := if_pos hr
theorem fV_let {c_ v_ : Nat} (hv : v_ < 4) : c_ = lets.getD (4 * v_) 0 ↔ fV c_ = some v_ := by
  unfold fV
  rcases (show v_ = 0 ∨ v_ = 1 ∨ v_ = 2 ∨ v_ = 3 by omega) with rfl | rfl | rfl | rfl
  · show c_ = 111 ↔ _
    constructor
    · rintro rfl; rfl
    · intro h_; split at h_
      · assumption
      · repeat' split at h_
        all_goals simp at h_
  · show c_ = 115 ↔ _
    constructor
    · rintro rfl; rfl
    · intro h_
      repeat' split at h_
      all_goals first | assumption | simp at h_
  · show c_ = 116 ↔ _
    constructor
    · rintro rfl; rfl
    · intro h_
      repeat' split at h_
      all_goals first | assumption | simp at h_
  · show c_ = 110 ↔ _
    constructor
    · rintro rfl; rfl
    · intro h_
      repeat' split at h_
      all_goals first | assumption | simp at h_
