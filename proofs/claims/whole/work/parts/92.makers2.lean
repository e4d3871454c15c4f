-- ===== calls that make_: sender =====
def NX (n_ : Nat) (h_ h' : hp) : Prop := ∀ a_, a_ < n_ → kdOf h' a_ = kdOf h_ a_ ∧ hI h' a_ = hI h_ a_ ∧ hR h' a_ = hR h_ a_ ∧ aI h' a_ = aI h_ a_ ∧ aL h' a_ = aL h_ a_ ∧ aR h' a_ = aR h_ a_
theorem NX.rf {n_ : Nat} {h_ : hp} : NX n_ h_ h_ := fun _ _ => ⟨rfl, rfl, rfl, rfl, rfl, rfl⟩
theorem NX.tr {n_ : Nat} {h_ h1 h2 : hp} (x_ : NX n_ h_ h1) (y_ : NX n_ h1 h2) : NX n_ h_ h2 := fun a_ ha_ => by
  obtain ⟨a0_, a1_, a2, a3, a4, a5⟩ := x_ a_ ha_
  obtain ⟨b0, b1, b2, b3, b4, b5⟩ := y_ a_ ha_
  exact ⟨b0.trans a0_, b1.trans a1_, b2.trans a2, b3.trans a3, b4.trans a4, b5.trans a5⟩
theorem NX_nwk {n_ : Nat} {h_ : hp} {k_ : Nat} (hn : n_ ≤ nid h_) : NX n_ h_ (nwk h_ k_) := fun a_ ha_ => by
  have e_ : ¬ a_ = nid h_ := by omega
  exact ⟨kd_nwk e_, by funext b_; exact if_neg e_, by funext b_; exact if_neg e_, by funext b_; exact if_neg e_, by funext b_; exact if_neg e_, by funext b_; exact if_neg e_⟩
theorem NX_sI {n_ : Nat} {h_ : hp} {i_ k_ : Nat} {v_ : Int32} (hn : n_ ≤ i_) : NX n_ h_ (sI h_ i_ k_ v_) := fun a_ ha_ => ⟨rfl, by funext b_; rw [hI_sI, if_neg (by omega)], rfl, rfl, rfl, rfl⟩
theorem NX_sR {n_ : Nat} {h_ : hp} {i_ k_ : Nat} {v_ : Option Nat} (hn : n_ ≤ i_) : NX n_ h_ (sR h_ i_ k_ v_) := fun a_ ha_ => ⟨rfl, rfl, by funext b_; rw [hR_sR, if_neg (by omega)], rfl, rfl, rfl⟩
theorem NX_sK {n_ : Nat} {h_ : hp} {i_ c_ : Nat} (hn : n_ ≤ i_) : NX n_ h_ (sK h_ i_ c_) := fun a_ ha_ => ⟨kd_sK (by omega), rfl, rfl, rfl, rfl, rfl⟩
theorem nid_ge (h_ : hp) : 100 ≤ nid h_ := Nat.le_add_right _ _
theorem sd_ge {i_ : Nat} (h_ : 100 ≤ i_) : sd 1 i_ = true := by
  show (decide (i_ < 52) || decide (100 ≤ i_)) = true
  rw [decide_eq_true h_, Bool.or_true]
def newS (h_ : hp) (n_ k_ v_ : Nat) : hp := sI (sI (sI (nwk h_ (sndQ k_)) (nid h_) 0 (nI n_)) (nid h_) 1 (nI k_)) (nid h_) 2 (nI v_)
theorem X4_init {h_ : hp} {o : Nat} {a_ b_ c_ : Int32} (hs : sd 1 o = true) (hk : kdOf h_ o ∈ sndK) : f_X4_init h_ o a_ b_ c_ = some (sI (sI (sI h_ o 0 a_) o 1 b_) o 2 c_, ()) := by
  unfold f_X4_init
  rw [ckS_of hs hk, nm_eq, ckS_of hs (show kdOf (sI h_ o 0 a_) o ∈ sndK from hk), nm_eq, ckS_of hs (show kdOf (sI (sI h_ o 0 a_) o 1 b_) o ∈ sndK from hk), nm_eq]
theorem X_newS {h_ : hp} {n_ k_ v_ : Nat} (hk7 : k_ < 7) : f_X11_newSender h_ (nI n_) (nI k_) (nI v_) = some (newS h_ n_ k_ v_, nid h_) := by
  have s1_ : sd 1 (nid h_) = true := sd_ge (nid_ge h_)
  have kk : ∀ c_, kdOf (nwk h_ c_) (nid h_) = c_ := fun c_ => kd_nwk_at
  have kin_ : ∀ c_, c_ ∈ sndK → kdOf (nwk h_ c_) (nid h_) ∈ sndK := fun c_ hc_ => by rw [kk]; exact hc_
  unfold f_X11_newSender
  rcases (show k_ = 0 ∨ k_ = 1 ∨ k_ = 2 ∨ k_ = 3 ∨ k_ = 4 ∨ k_ = 5 ∨ k_ = 6 by omega) with rfl | rfl | rfl | rfl | rfl | rfl | rfl
  · rw [if_neg (by decide), if_neg (by decide), if_neg (by decide), if_neg (by decide), if_neg (by decide), if_neg (by decide), nm_eq, nm_eq, ckW_of s1_ (by rw [kk]; decide), bnd_of (X4_init s1_ (kin_ 6 (by decide)))]; rfl
  · rw [if_pos (by decide), nm_eq, nm_eq, ckW_of s1_ (by rw [kk]; decide)]
    unfold f_X7_init
    rw [ckW_of s1_ (by rw [kk]; decide), bnd_of (X4_init s1_ (kin_ 9 (by decide))), bnd_of rfl]; rfl
  · rw [if_neg (by decide), if_pos (by decide), nm_eq, nm_eq, ckW_of s1_ (by rw [kk]; decide)]
    unfold f_X0_init
    rw [ckW_of s1_ (by rw [kk]; decide), bnd_of (X4_init s1_ (kin_ 2 (by decide))), bnd_of rfl]; rfl
  · rw [if_neg (by decide), if_neg (by decide), if_pos (by decide), nm_eq, nm_eq, ckW_of s1_ (by rw [kk]; decide)]
    unfold f_X1_init
    rw [ckW_of s1_ (by rw [kk]; decide), bnd_of (X4_init s1_ (kin_ 3 (by decide))), bnd_of rfl]; rfl
  · rw [if_neg (by decide), if_neg (by decide), if_neg (by decide), if_pos (by decide), nm_eq, nm_eq, ckW_of s1_ (by rw [kk]; decide)]
    unfold f_X5_init f_X7_init
    rw [ckW_of s1_ (by rw [kk]; decide), ckW_of s1_ (by rw [kk]; decide), bnd_of (X4_init s1_ (kin_ 7 (by decide))), bnd_of rfl, bnd_of rfl]; rfl
  · rw [if_neg (by decide), if_neg (by decide), if_neg (by decide), if_neg (by decide), if_pos (by decide), nm_eq, nm_eq, ckW_of s1_ (by rw [kk]; decide)]
    unfold f_X10_init f_X0_init
    rw [ckW_of s1_ (by rw [kk]; decide), ckW_of s1_ (by rw [kk]; decide), bnd_of (X4_init s1_ (kin_ 12 (by decide))), bnd_of rfl, bnd_of rfl]; rfl
  · rw [if_neg (by decide), if_neg (by decide), if_neg (by decide), if_neg (by decide), if_neg (by decide), if_pos (by decide), nm_eq, nm_eq, ckW_of s1_ (by rw [kk]; decide)]
    unfold f_X8_init f_X1_init
    rw [ckW_of s1_ (by rw [kk]; decide), ckW_of s1_ (by rw [kk]; decide), bnd_of (X4_init s1_ (kin_ 10 (by decide))), bnd_of rfl, bnd_of rfl]; rfl
theorem newS_at {h_ : hp} {n_ k_ v_ : Nat} : sndX (newS h_ n_ k_ v_) (nid h_) n_ k_ v_ := by
  refine ⟨sd_ge (nid_ge h_), nid_ge h_, ?_, ?_, ?_, ?_⟩
  · show kdOf (nwk h_ (sndQ k_)) (nid h_) = sndQ k_; exact kd_nwk_at
  · unfold newS
    rw [hI_sI, if_neg (by rintro ⟨-, hh⟩; exact absurd hh (by decide)), hI_sI, if_neg (by rintro ⟨-, hh⟩; exact absurd hh (by decide)), hI_sI, if_pos ⟨rfl, rfl⟩]
  · unfold newS
    rw [hI_sI, if_neg (by rintro ⟨-, hh⟩; exact absurd hh (by decide)), hI_sI, if_pos ⟨rfl, rfl⟩]
  · unfold newS
    rw [hI_sI, if_pos ⟨rfl, rfl⟩]
theorem newS_N {h_ : hp} {n_ k_ v_ : Nat} : NX (nid h_) h_ (newS h_ n_ k_ v_) := (((NX_nwk (Nat.le_refl _)).tr (NX_sI (Nat.le_refl _))).tr (NX_sI (Nat.le_refl _))).tr (NX_sI (Nat.le_refl _))
theorem newS_nid {h_ : hp} {n_ k_ v_ : Nat} : nid (newS h_ n_ k_ v_) = nid h_ + 1 := nid_nwk
theorem newS_kd {h_ : hp} {n_ k_ v_ a_ : Nat} (ha_ : a_ ≠ nid h_) : kdOf (newS h_ n_ k_ v_) a_ = kdOf h_ a_ := kd_nwk ha_
/-- frames along a_ set_ of_ numbers that is_ old_ and apart -/
def agY (P_ : Nat → Prop) (h_ h' : hp) : Prop := ∀ a_, ¬ P_ a_ → kdOf h' a_ = kdOf h_ a_ ∧ hI h' a_ = hI h_ a_ ∧ hR h' a_ = hR h_ a_ ∧ aI h' a_ = aI h_ a_ ∧ aL h' a_ = aL h_ a_ ∧ aR h' a_ = aR h_ a_
theorem agY_X {P_ : Nat → Prop} {h_ h' : hp} (x_ : agX P_ h_ h') : agY P_ h_ h' := fun a_ ha_ => ⟨x_.kd a_, x_.2 a_ ha_⟩
theorem agY_N {P_ : Nat → Prop} {h_ h' : hp} {n_ : Nat} (x_ : NX n_ h_ h') (hP : ∀ a_, n_ ≤ a_ → P_ a_) : agY P_ h_ h' := fun a_ ha_ => x_ a_ (by
  rcases Nat.lt_or_ge a_ n_ with hh | hh
  · exact hh
  · exact absurd (hP a_ hh) ha_)
theorem agY_up {P_ Q_ : Nat → Prop} {h_ h' : hp} (hPQ : ∀ a_, P_ a_ → Q_ a_) (x_ : agY P_ h_ h') : agY Q_ h_ h' := fun a_ ha_ => x_ a_ (fun hc_ => ha_ (hPQ a_ hc_))
theorem agY.tr {P_ : Nat → Prop} {h_ h1 h2 : hp} (x_ : agY P_ h_ h1) (y_ : agY P_ h1 h2) : agY P_ h_ h2 := fun a_ ha_ => by
  obtain ⟨a0_, a1_, a2, a3, a4, a5⟩ := x_ a_ ha_
  obtain ⟨b0, b1, b2, b3, b4, b5⟩ := y_ a_ ha_
  exact ⟨b0.trans a0_, b1.trans a1_, b2.trans a2, b3.trans a3, b4.trans a4, b5.trans a5⟩
theorem wardX_Y {P_ : Nat → Prop} {h_ h' : hp} {b_ : Nat} {σ : scn} (x_ : agY P_ h_ h') (hP : ∀ v_, hR h_ b_ 9 = some v_ → wdK h_ v_ → ∀ j_, v_ ≤ j_ → j_ ≤ v_ + 4 → ¬ P_ j_) (hb_ : hR h' b_ 9 = hR h_ b_ 9) (H_ : wardX h_ b_ σ) : wardX h' b_ σ := by
  unfold wardX at H_ ⊢
  cases hC : sC σ with
  | none => rw [hC] at H_; exact hb_.trans H_
  | some C_ =>
    rw [hC] at H_
    obtain ⟨w_, hw, hd_⟩ := H_
    refine ⟨w_, hb_.trans hw, wdX_ag' (fun j_ hj => ?_) hd_⟩
    have := x_ j_ (hP w_ hw hd_.1 j_ (by omega) (by omega))
    exact ⟨this.1, this.2.1, this.2.2.2.1⟩
theorem sndsX_Y {P_ : Nat → Prop} {h_ h' : hp} {b_ : Nat} {σ : scn} (x_ : agY P_ h_ h') (hP : ∀ o, 100 ≤ o → kdOf h_ o ∈ sndK → ¬ P_ o) (hb_ : hI h' b_ 2 = hI h_ b_ 2) (h3 : aR h' (b_ + 3) = aR h_ (b_ + 3)) (h4 : aI h' (b_ + 4) = aI h_ (b_ + 4)) (h5 : aI h' (b_ + 5) = aI h_ (b_ + 5)) (H_ : sndsX h_ b_ σ) : sndsX h' b_ σ := by
  obtain ⟨q1_, q2_, q3_, q4_⟩ := H_
  refine ⟨hb_.trans q1_, fun p_ hp => ?_, by rw [h4]; exact q3_, by rw [h5]; exact q4_⟩
  obtain ⟨o, ho, hs⟩ := q2_ p_ hp
  have := x_ o (hP o hs.2.1 (by rw [hs.2.2.1]; exact sndQ_in))
  exact ⟨o, by rw [h3]; exact ho, sndX_ag' ⟨this.1, this.2.1⟩ hs⟩
theorem scX_Y {P_ : Nat → Prop} {h_ h' : hp} {b_ : Nat} {σ : scn} (x_ : agY P_ h_ h') (hb_ : ∀ a_, b_ ≤ a_ → a_ ≤ b_ + 11 → ¬ P_ a_) (hs : ∀ o, 100 ≤ o → kdOf h_ o ∈ sndK → ¬ P_ o) (hw : ∀ v_, hR h_ b_ 9 = some v_ → wdK h_ v_ → ∀ j_, v_ ≤ j_ → j_ ≤ v_ + 4 → ¬ P_ j_) (H_ : scX h_ b_ σ) : scX h' b_ σ := by
  have e_ := fun a_ (h1 : b_ ≤ a_ ∧ a_ ≤ b_ + 11) => (x_ a_ (hb_ a_ h1.1 h1.2)).2
  have e0_ := e_ b_ (by omega)
  have e1_ := e_ (b_ + 1) (by omega)
  have e2_ := e_ (b_ + 2) (by omega)
  have e3_ := e_ (b_ + 3) (by omega)
  have e4_ := e_ (b_ + 4) (by omega)
  have e5_ := e_ (b_ + 5) (by omega)
  have e6_ := e_ (b_ + 6) (by omega)
  have e7_ := e_ (b_ + 7) (by omega)
  have e8 := e_ (b_ + 8) (by omega)
  have e9_ := e_ (b_ + 9) (by omega)
  have e10_ := e_ (b_ + 10) (by omega)
  have e11_ := e_ (b_ + 11) (by omega)
  obtain ⟨q1_, q2_, q3_, q4_, q5_, q6_, q7_⟩ := H_
  exact ⟨by rw [e1_.1, e2_.2.2.1]; exact q1_, sndsX_Y x_ hs (by rw [e0_.1]) e3_.2.2.2.2 e4_.2.2.1 e5_.2.2.1 q2_, by rw [e0_.1]; exact q3_, by rw [e6_.1, e7_.2.2.1]; exact q4_, by rw [e8.1, e9_.2.2.1]; exact q5_, by rw [e10_.1, e11_.2.2.1]; exact q6_, wardX_Y x_ hw (by rw [e0_.2.1]) q7_⟩
def addS (σ : scn) (k_ v_ : Nat) : scn := (σ.1, (sp σ + 1, (fun p_ => if p_ = sp σ then k_ else sK' σ p_), (fun p_ => if p_ = sp σ then v_ else sV σ p_), (fun p_ => if p_ = sp σ then 0 else sS σ p_), fun j_ => if 4 * sp σ ≤ j_ then 0 else sRw σ j_), σ.2.2)
theorem M_rows_lp {p_ : Nat} (hp : p_ < 5) : ∀ m_ k_ n_ h_, hI h_ 52 1 = nI p_ → k_ + m_ = 4 → m_ < n_ → ∃ h', f_X12_sender_70 n_ h_ (nI k_) = some (h', nI p_) ∧ h'.2.1 = h_.2.1 ∧ h'.2.2.2 = h_.2.2.2 ∧ (∀ a_ j_, hI h' a_ j_ = if a_ = 52 ∧ j_ = 1 then nI (p_ + 1) else hI h_ a_ j_) ∧ ∀ a_ j_, aI h' a_ j_ = if a_ = 57 ∧ 4 * p_ + k_ ≤ j_ ∧ j_ < 4 * p_ + 4 then 0 else aI h_ a_ j_ := by
  intro m_
  induction m_ with
  | zero =>
    intro k_ n_ h_ e_ h1 h2
    obtain ⟨n_, rfl⟩ : ∃ j_, n_ = j_ + 1 := ⟨n_ - 1, by omega⟩
    rw [f_X12_sender_70, if_neg (show ¬ nI k_ < (4 : Int32) from nI_nlt (b := 4) (by omega) (by omega)), e_, nI_1, nm_eq, hI_sI, if_pos ⟨rfl, rfl⟩, nI_pred]
    exact ⟨_, rfl, rfl, rfl, fun a_ j_ => by rw [hI_sI], fun a_ j_ => by rw [aI_sI, if_neg (by omega)]⟩
  | succ m_ ih_ =>
    intro k_ n_ h_ e_ h1 h2
    obtain ⟨n_, rfl⟩ : ∃ j_, n_ = j_ + 1 := ⟨n_ - 1, by omega⟩
    rw [f_X12_sender_70, if_pos (show nI k_ < (4 : Int32) from nI_lt (b := 4) (by omega) (by decide)), e_, show (4 : Int32) * nI p_ = nI (4 * p_) from by rw [show (4 : Int32) = nI 4 from rfl, pk_mul], nI_add, chk_of (vp_in_nI (n := 4 * p_ + k_) (N := 20) (by omega) (by decide)), nm_eq, nm_eq, nI_clamp (n := 4 * p_ + k_) (by omega), nI_1]
    obtain ⟨h', y1, y2, y3, y4, y5⟩ := ih_ (k_ + 1) n_ (tI h_ 57 (4 * p_ + k_) 0) e_ (by omega) (by omega)
    refine ⟨h', y1, y2, y3, y4, fun a_ j_ => ?_⟩
    rw [y5, aI_tI]
    by_cases c1_ : a_ = 57 ∧ 4 * p_ + (k_ + 1) ≤ j_ ∧ j_ < 4 * p_ + 4
    · rw [if_pos c1_, if_pos (by omega)]
    · rw [if_neg c1_]
      by_cases c2_ : a_ = 57 ∧ j_ = 4 * p_ + k_
      · rw [if_pos c2_, if_pos (by omega)]
      · rw [if_neg c2_, if_neg (by omega)]
theorem s_sender {hx hm_ : hp} (H_ : Sim hx hm_) (a_ b_ : Int32) : ∃ hx' hm' r_, f_X11_sender hx a_ b_ = some (hx', r_) ∧ f_X12_sender hm_ a_ b_ = some (hm', r_) ∧ Sim hx' hm' := by
  have H0 := H_
  obtain ⟨S_, hX, hM_, hok, ht⟩ := H_
  have e0_ : hI hm_ 52 1 = nI (sp S_.1) := hM_.1.2.1.1
  have x0_ : hI hx 1 2 = nI (sp S_.1) := hX.1.1.2.1.1
  have hp5 := hok.1.1.2.1.1
  unfold f_X11_sender f_X12_sender
  rw [bnr_of (M_in0 (n := 7) (by decide) (by decide)), bnr_of X_isDigit, bnr_of (M_in0 (n := 10) (by decide) (by decide))]
  rcases arg_split a_ 7 (by decide) with ⟨k_, hk, rfl⟩ | hx1
  · rw [if_neg (arg_no hk (by decide)), if_neg ne10, if_neg (nI_pos (by omega)), if_pos (show nI k_ < (7 : Int32) from nI_lt (b := 7) hk (by decide))]
    rcases arg_split b_ 10 (by decide) with ⟨v_, hv, rfl⟩ | hx2
    · rw [if_neg (arg_no hv (by decide)), if_neg ne10, if_neg ne10, x0_, e0_]
      by_cases hc_ : sp S_.1 < 5
      · have hin : vp_in (nI (sp S_.1)) 5 := vp_in_nI hc_ (by decide)
        have ct : (nI (sp S_.1)).toNatClampNeg = sp S_.1 := nI_clamp (by omega)
        rw [if_pos (show nI (sp S_.1) < (5 : Int32) from nI_lt (b := 5) hc_ (by decide)), bnd_of (X_newS hk), if_neg (show ¬ nI (sp S_.1) = (5 : Int32) from fun z_ => by have := (nI_eq (b := 5) (by omega) (by decide)).mp z_; omega), chk_of hin, nm_eq, hI_tI, e0_, chk_of hin, nm_eq, hI_tI, hI_tI, e0_, chk_of hin, nm_eq, ct]
        generalize hg1 : newS hx (sp S_.1) k_ v_ = g1
        have n1_ : NX (nid hx) hx g1 := by rw [← hg1]; exact newS_N
        have n2_ : sndX g1 (nid hx) (sp S_.1) k_ v_ := by rw [← hg1]; exact newS_at
        have n3_ : nid g1 = nid hx + 1 := by rw [← hg1]; exact newS_nid
        have n4_ : ∀ q_, q_ ≠ nid hx → kdOf g1 q_ = kdOf hx q_ := fun q_ hq => by rw [← hg1]; exact newS_kd hq
        have n100 := nid_ge hx
        have c2_ : hI g1 1 2 = nI (sp S_.1) := by rw [(n1_ 1 (by omega)).2.1]; exact x0_
        have hS_ : kdOf g1 (nid hx) ∈ sndK := by rw [n2_.2.2.1]; exact sndQ_in
        have hA := fun (y_ : Option (hp × Int32)) => ckA_of (b := 1) (h := g1) (i := 1 + 3) (e := 4) (n := 5) (a := y_) rfl rfl (by decide)
        have jn : f_X3_join g1 1 (nid hx) = some (sI (tR g1 (1 + 3) (sp S_.1) (some (nid hx))) 1 2 (nI (sp S_.1 + 1)), nI (sp S_.1)) := by
          unfold f_X3_join f_X3_join_27
          rw [ckO_of (show sd 1 1 = true from rfl) (show kdOf g1 1 = 5 from rfl), nm_eq, c2_, if_pos (show nI (sp S_.1) < (5 : Int32) from nI_lt (b := 5) hc_ (by decide)), ckO_of (show sd 1 1 = true from rfl) (show kdOf g1 1 = 5 from rfl), (hA _).1, (hA none).2, chk_of hin, show ∀ y_ : Option (hp × Int32), ckN g1 (some (nid hx)) y_ = y_ from fun y_ => ckS_of n2_.1 hS_, nm_eq, ct, ckO_of (show sd 1 1 = true from rfl) (show kdOf (tR g1 (1 + 3) (sp S_.1) (some (nid hx))) 1 = 5 from rfl), ckO_of (show sd 1 1 = true from rfl) (show kdOf (tR g1 (1 + 3) (sp S_.1) (some (nid hx))) 1 = 5 from rfl), nm_eq, hI_tR, c2_, nI_1]
        rw [bnd_of jn]
        generalize hg2 : sI (tR g1 (1 + 3) (sp S_.1) (some (nid hx))) 1 2 (nI (sp S_.1 + 1)) = g2
        have x2_ : agX (fun j_ => j_ = 1 ∨ j_ = 4) g1 g2 := by rw [← hg2]; exact (agX_tR (by omega)).tr (agX_sI (by omega))
        have Y : agY (fun j_ => j_ = 1 ∨ j_ = 4 ∨ nid hx ≤ j_) hx g2 := (agY_N n1_ (fun q_ hq => by omega)).tr (agY_up (fun q_ hq => by omega) (agY_X x2_))
        obtain ⟨hm', y1, y2, y3, y4, y5⟩ := M_rows_lp hc_ 4 0 2000 (tI (tI (tI hm_ 54 (sp S_.1) (nI k_)) 55 (sp S_.1) (nI v_)) 56 (sp S_.1) 0) e0_ rfl (by decide)
        have fr_ := hX.2.2.2.2.2.2
        have old_ : ∀ q_, kdOf hx q_ ≠ 0 → q_ < nid hx := fun q_ hq => by
          rcases Nat.lt_or_ge q_ (nid hx) with hh | hh
          · exact hh
          · exact absurd (fr_ q_ hh) hq
        have snd0 : ∀ o, 100 ≤ o → kdOf hx o ∈ sndK → ¬ (o = 1 ∨ o = 4 ∨ nid hx ≤ o) := fun o h1 h2 => by
          have : kdOf hx o ≠ 0 := fun z_ => by rw [z_] at h2; exact absurd h2 (by decide)
          have := old_ o this
          omega
        have wd0 : ∀ b_ v_, hR hx b_ 9 = some v_ → wdK hx v_ → ∀ j_, v_ ≤ j_ → j_ ≤ v_ + 4 → ¬ (j_ = 1 ∨ j_ = 4 ∨ nid hx ≤ j_) := fun b_ v_ _ hw j_ h1 h2 => by
          have hnum := wd_num hw
          have : v_ + 4 < nid hx := old_ _ (by rw [hw.2.2.1.2.2.2]; decide)
          omega
        refine ⟨g2, hm', nI (sp S_.1), rfl, y1, (addS S_.1 k_ v_, S_.2), ?_, ?_, ?_, ?_⟩
        · have ey := fun q_ (hq : ¬ (q_ = 1 ∨ q_ = 4 ∨ nid hx ≤ q_)) => (Y q_ hq).2
          obtain ⟨⟨⟨q1_, q2_, q3_, q4_, q5_, q6_, q7_⟩, qn⟩, t2_, t3_, t4_, t5_, t6, t7⟩ := hX
          have a4 : ∀ p_, aR g2 4 p_ = if p_ = sp S_.1 then some (nid hx) else aR hx 4 p_ := fun p_ => by
            rw [← hg2, aR_sI, aR_tR, (n1_ 4 (by omega)).2.2.2.2.2]
            by_cases e_ : p_ = sp S_.1
            · rw [if_pos ⟨rfl, e_⟩, if_pos e_]
            · rw [if_neg (by rintro ⟨-, hh⟩; exact e_ hh), if_neg e_]
          have i1_ : ∀ j_, hI g2 1 j_ = if j_ = 2 then nI (sp S_.1 + 1) else hI hx 1 j_ := fun j_ => by
            rw [← hg2, hI_sI, hI_tR, (n1_ 1 (by omega)).2.1]
            by_cases e_ : j_ = 2
            · rw [if_pos ⟨rfl, e_⟩, if_pos e_]
            · rw [if_neg (by rintro ⟨-, hh⟩; exact e_ hh), if_neg e_]
          have r1_ : hR g2 1 9 = hR hx 1 9 := by rw [← hg2, hR_sI, hR_tR, (n1_ 1 (by omega)).2.2.1]
          refine ⟨⟨⟨by rw [(ey 2 (by omega)).1, (ey 3 (by omega)).2.2.1]; exact q1_, ⟨?_, fun p_ hp => ?_, fun p_ hp => ?_, fun j_ hj => ?_⟩, by rw [i1_, if_neg (by decide)]; exact q3_, by rw [(ey 7 (by omega)).1, (ey 8 (by omega)).2.2.1]; exact q4_, by rw [(ey 9 (by omega)).1, (ey 10 (by omega)).2.2.1]; exact q5_, by rw [(ey 11 (by omega)).1, (ey 12 (by omega)).2.2.1]; exact q6_, wardX_Y (σ := S_.1) Y (wd0 1) r1_ q7_⟩, fun p_ h1 h2 => ?_⟩, ?_, by rw [(ey 0 (by omega)).1]; exact t3_, by rw [(ey 25 (by omega)).1, (ey 26 (by omega)).2.2.1]; exact t4_, ?_, by rw [(ey 33 (by omega)).1, (ey 34 (by omega)).2.2.1]; exact t6, ?_⟩
          · rw [i1_, if_pos rfl]; rfl
          · have hp1 : p_ < sp S_.1 + 1 := hp
            show ∃ o, aR g2 4 p_ = some o ∧ sndX g2 o p_ (if p_ = sp S_.1 then k_ else sK' S_.1 p_) (if p_ = sp S_.1 then v_ else sV S_.1 p_)
            rw [a4]
            by_cases e_ : p_ = sp S_.1
            · rw [if_pos e_, if_pos e_, if_pos e_, e_]
              exact ⟨nid hx, rfl, sndX_ag' ⟨x2_.kd _, (x2_.2 _ (by omega)).1⟩ n2_⟩
            · rw [if_neg e_, if_neg e_, if_neg e_]
              obtain ⟨o, ho, hs⟩ := q2_.2.1 p_ (by omega)
              have := Y o (snd0 o hs.2.1 (by rw [hs.2.2.1]; exact sndQ_in))
              exact ⟨o, ho, sndX_ag' ⟨this.1, this.2.1⟩ hs⟩
          · show aI g2 5 p_ = nI (if p_ < sp S_.1 + 1 then (if p_ = sp S_.1 then 0 else sS S_.1 p_) else 0)
            rw [(ey 5 (by omega)).2.2.1]
            refine (q2_.2.2.1 p_ hp).trans (congrArg nI ?_)
            by_cases e1_ : p_ < sp S_.1
            · rw [if_pos e1_, if_pos (by omega), if_neg (by omega)]
            · rw [if_neg e1_]
              split
              · rw [if_pos (by omega)]
              · rfl
          · show aI g2 6 j_ = nI (if j_ / 4 < sp S_.1 + 1 then (if 4 * sp S_.1 ≤ j_ then 0 else sRw S_.1 j_) else 0)
            rw [(ey 6 (by omega)).2.2.1]
            refine (q2_.2.2.2 j_ hj).trans (congrArg nI ?_)
            by_cases e1_ : j_ / 4 < sp S_.1
            · rw [if_pos e1_, if_pos (by omega), if_neg (by omega)]
            · rw [if_neg e1_]
              split
              · rw [if_pos (by omega)]
              · rfl
          · have h1 : sp S_.1 + 1 ≤ p_ := h1
            rw [a4, if_neg (by omega)]; exact qn p_ (by omega) h2
          · unfold tkX at t2_ ⊢
            show match S_.2.1 with
              | none => hI g2 0 2 = 0
              | some σ => hI g2 0 2 = 1 ∧ scX g2 13 σ ∧ ∀ p_, sp σ ≤ p_ → p_ < 5 → aR g2 16 p_ = none
            cases hi_ : S_.2.1 with
            | none => rw [hi_] at t2_; rw [(ey 0 (by omega)).1]; exact t2_
            | some σ =>
              rw [hi_] at t2_
              exact ⟨by rw [(ey 0 (by omega)).1]; exact t2_.1, scX_Y Y (fun q_ h1 h2 => by omega) snd0 (wd0 13) t2_.2.1, by rw [(ey 16 (by omega)).2.2.2.2]; exact t2_.2.2⟩
          · obtain ⟨w1_, a1_, a2, a3⟩ := t5_
            have hnum := wd_num a2
            have wl : w1_ + 4 < nid hx := old_ _ (by rw [a2.2.2.1.2.2.2]; decide)
            obtain ⟨k1_, k2_, ⟨k3_, k4_, k5_, k6_⟩, s4_⟩ := a2
            refine ⟨w1_, by rw [(ey 0 (by omega)).2.1]; exact a1_, ⟨k1_, (Y w1_ (by omega)).1.trans k2_, ⟨(Y _ (by omega)).1.trans k3_, (Y _ (by omega)).1.trans k4_, (Y _ (by omega)).1.trans k5_, (Y _ (by omega)).1.trans k6_⟩, s4_⟩, fun u_ hu => ?_⟩
            rw [r1_, (ey 13 (by omega)).2.1] at hu
            exact a3 u_ hu
          · intro q_ hq
            have e1_ : nid g2 = nid hx + 1 := by rw [← n3_]; show 100 + g2.2.2.2.2.2 0 = 100 + g1.2.2.2.2.2 0; rw [x2_.1]
            rw [x2_.kd, n4_ q_ (by omega)]
            exact t7 q_ (by omega)
        · obtain ⟨⟨u1_, u2_, u3, u4_, u5, u6, u7⟩, v2, v3, v4_, v5, v6⟩ := hM_
          have eI : ∀ j_, j_ ≠ 1 → hI hm' 52 j_ = hI hm_ 52 j_ := fun j_ hj => by rw [y4, if_neg (by rintro ⟨-, hh⟩; exact hj hh)]; rfl
          have eA_ : ∀ q_, q_ ≠ 54 → q_ ≠ 55 → q_ ≠ 56 → q_ ≠ 57 → aI hm' q_ = aI hm_ q_ := fun q_ h1 h2 h3 h4 => by
            funext j_
            rw [y5, if_neg (by omega), aI_tI, if_neg (by omega), aI_tI, if_neg (by omega), aI_tI, if_neg (by omega)]
          refine ⟨⟨by rw [eI 0 (by decide), eA_ 53 (by decide) (by decide) (by decide) (by decide)]; exact u1_, ⟨by rw [y4, if_pos ⟨rfl, rfl⟩]; rfl, fun p_ hp => ?_⟩, by rw [eI 2 (by decide)]; exact u3, by rw [eI 29 (by decide), eA_ 71 (by decide) (by decide) (by decide) (by decide), eA_ 72 (by decide) (by decide) (by decide) (by decide)]; exact u4_, by rw [eI 32 (by decide), eA_ 73 (by decide) (by decide) (by decide) (by decide)]; exact u5, by rw [eI 33 (by decide), eA_ 74 (by decide) (by decide) (by decide) (by decide), eA_ 75 (by decide) (by decide) (by decide) (by decide)]; exact u6, ?_⟩, ?_, by rw [eI 8 (by decide)]; exact v3, by rw [eI 10 (by decide), eA_ 58 (by decide) (by decide) (by decide) (by decide)]; exact v4_, by rw [eA_ 66 (by decide) (by decide) (by decide) (by decide)]; exact v5, by rw [eI 55 (by decide), eA_ 86 (by decide) (by decide) (by decide) (by decide)]; exact v6⟩
          · have hp1 : p_ < sp S_.1 + 1 := hp
            show aI hm' 54 p_ = nI (if p_ = sp S_.1 then k_ else sK' S_.1 p_) ∧ aI hm' 55 p_ = nI (if p_ = sp S_.1 then v_ else sV S_.1 p_) ∧ aI hm' 56 p_ = nI (if p_ = sp S_.1 then 0 else sS S_.1 p_) ∧ ∀ j_, j_ < 4 → aI hm' 57 (4 * p_ + j_) = nI (if 4 * sp S_.1 ≤ 4 * p_ + j_ then 0 else sRw S_.1 (4 * p_ + j_))
            have r54 : aI hm' 54 p_ = if p_ = sp S_.1 then nI k_ else aI hm_ 54 p_ := by
              rw [y5, if_neg (by omega)]
              show (if 54 = 54 ∧ p_ = sp S_.1 then nI k_ else aI hm_ 54 p_) = _
              by_cases e_ : p_ = sp S_.1
              · rw [if_pos ⟨rfl, e_⟩, if_pos e_]
              · rw [if_neg (by rintro ⟨-, hh⟩; exact e_ hh), if_neg e_]
            have r55 : aI hm' 55 p_ = if p_ = sp S_.1 then nI v_ else aI hm_ 55 p_ := by
              rw [y5, if_neg (by omega)]
              show (if 55 = 55 ∧ p_ = sp S_.1 then nI v_ else aI hm_ 55 p_) = _
              by_cases e_ : p_ = sp S_.1
              · rw [if_pos ⟨rfl, e_⟩, if_pos e_]
              · rw [if_neg (by rintro ⟨-, hh⟩; exact e_ hh), if_neg e_]
            have r56 : aI hm' 56 p_ = if p_ = sp S_.1 then nI 0 else aI hm_ 56 p_ := by
              rw [y5, if_neg (by omega)]
              show (if 56 = 56 ∧ p_ = sp S_.1 then (0 : Int32) else aI hm_ 56 p_) = _
              by_cases e_ : p_ = sp S_.1
              · rw [if_pos ⟨rfl, e_⟩, if_pos e_]; rfl
              · rw [if_neg (by rintro ⟨-, hh⟩; exact e_ hh), if_neg e_]
            have r57 : ∀ j_, j_ < 4 → aI hm' 57 (4 * p_ + j_) = if p_ = sp S_.1 then nI 0 else aI hm_ 57 (4 * p_ + j_) := fun j_ hj => by
              rw [y5]
              by_cases e_ : p_ = sp S_.1
              · rw [if_pos (by omega), if_pos e_]; rfl
              · rw [if_neg (by omega), if_neg e_]; rfl
            rw [r54, r55, r56]
            by_cases e_ : p_ = sp S_.1
            · rw [if_pos e_, if_pos e_, if_pos e_, if_pos e_, if_pos e_, if_pos e_]
              exact ⟨rfl, rfl, rfl, fun j_ hj => by rw [r57 j_ hj, if_pos e_, if_pos (by omega)]⟩
            · obtain ⟨w1_, w2_, w3_, w4_⟩ := u2_.2 p_ (by omega)
              rw [if_neg e_, if_neg e_, if_neg e_, if_neg e_, if_neg e_, if_neg e_]
              exact ⟨w1_, w2_, w3_, fun j_ hj => by rw [r57 j_ hj, if_neg e_, if_neg (by omega)]; exact w4_ j_ hj⟩
          · show match sC S_.1 with
              | none => hI hm' 52 9 = -1
              | some C_ => ∃ f_ wn_, f_ < wn_ ∧ wn_ ≤ 6 ∧ hI hm' 52 8 = nI wn_ ∧ hI hm' 52 9 = nI f_ ∧ wdM hm' f_ C_
            unfold wdM at u7 ⊢
            simp only [eI 9 (by decide), eI 8 (by decide), eA_ 59 (by decide) (by decide) (by decide) (by decide), eA_ 60 (by decide) (by decide) (by decide) (by decide), eA_ 61 (by decide) (by decide) (by decide) (by decide), eA_ 62 (by decide) (by decide) (by decide) (by decide), eA_ 63 (by decide) (by decide) (by decide) (by decide), eA_ 64 (by decide) (by decide) (by decide) (by decide)]
            exact u7
          · unfold tkM scM2 scM wdM at v2 ⊢
            simp only [eI 37 (by decide), eI 39 (by decide), eI 40 (by decide), eI 41 (by decide), eI 42 (by decide), eI 43 (by decide), eI 44 (by decide), eI 38 (by decide), eI 8 (by decide), eA_ 76 (by decide) (by decide) (by decide) (by decide), eA_ 77 (by decide) (by decide) (by decide) (by decide), eA_ 78 (by decide) (by decide) (by decide) (by decide), eA_ 79 (by decide) (by decide) (by decide) (by decide), eA_ 80 (by decide) (by decide) (by decide) (by decide), eA_ 59 (by decide) (by decide) (by decide) (by decide), eA_ 60 (by decide) (by decide) (by decide) (by decide), eA_ 61 (by decide) (by decide) (by decide) (by decide), eA_ 62 (by decide) (by decide) (by decide) (by decide), eA_ 63 (by decide) (by decide) (by decide) (by decide), eA_ 64 (by decide) (by decide) (by decide) (by decide), eA_ 81 (by decide) (by decide) (by decide) (by decide), eA_ 82 (by decide) (by decide) (by decide) (by decide), eA_ 83 (by decide) (by decide) (by decide) (by decide), eA_ 84 (by decide) (by decide) (by decide) (by decide), eA_ 85 (by decide) (by decide) (by decide) (by decide)]
            exact v2
        · refine ⟨⟨⟨hok.1.1.1, ⟨hc_, fun p_ hp => ?_⟩, hok.1.1.2.2.1, hok.1.1.2.2.2.1, ⟨hok.1.1.2.2.2.2.1.1, fun q_ hq => (hok.1.1.2.2.2.2.1.2 q_ hq).imp Nat.lt_succ_of_lt id⟩, hok.1.1.2.2.2.2.2⟩, hok.1.2⟩, hok.2⟩
          have hp1 : p_ < sp S_.1 + 1 := hp
          show (if p_ = sp S_.1 then k_ else sK' S_.1 p_) < 7 ∧ (if p_ = sp S_.1 then v_ else sV S_.1 p_) < 10 ∧ (if p_ = sp S_.1 then 0 else sS S_.1 p_) ≤ 9999 ∧ ∀ j_, j_ < 4 → (if 4 * sp S_.1 ≤ 4 * p_ + j_ then 0 else sRw S_.1 (4 * p_ + j_)) < 10
          by_cases e_ : p_ = sp S_.1
          · rw [if_pos e_, if_pos e_, if_pos e_]
            exact ⟨hk, hv, by omega, fun j_ hj => by rw [if_pos (by omega)]; omega⟩
          · obtain ⟨w1_, w2_, w3_, w4_⟩ := hok.1.1.2.1.2 p_ (by omega)
            rw [if_neg e_, if_neg e_, if_neg e_]
            exact ⟨w1_, w2_, w3_, fun j_ hj => by rw [if_neg (by omega)]; exact w4_ j_ hj⟩
        · intro t_ ht6
          have ey := fun q_ (hq : ¬ (q_ = 1 ∨ q_ = 4 ∨ nid hx ≤ q_)) => (Y q_ hq).2
          have eA_ : ∀ q_, q_ = 87 ∨ q_ = 88 → aI hm' q_ = aI hm_ q_ := fun q_ h1 => by
            funext j_
            rw [y5, if_neg (by omega), aI_tI, if_neg (by omega), aI_tI, if_neg (by omega), aI_tI, if_neg (by omega)]
          have eL : aL hm' 89 = aL hm_ 89 := by funext j_; show hm'.2.2.2.1 89 j_ = _; rw [y3]; rfl
          rw [(ey 32 (by omega)).2.2.2.2, (ey (39 + 2 * t_) (by omega)).1, (ey (40 + 2 * t_) (by omega)).2.2.2.1, eA_ 87 (by omega), eA_ 88 (by omega), eL]
          exact ht t_ ht6
      · have h5 : sp S_.1 = 5 := by omega
        rw [if_neg (show ¬ nI (sp S_.1) < (5 : Int32) by rw [h5]; decide), if_pos (show nI (sp S_.1) = (5 : Int32) by rw [h5]; rfl)]
        exact ⟨hx, hm_, _, rfl, rfl, H0⟩
    · rw [if_pos hx2, if_pos rfl, if_pos rfl]
      exact ⟨hx, hm_, _, rfl, rfl, H0⟩
  · rw [if_pos hx1, if_pos rfl]
    by_cases h0 : a_ < 0
    · rw [if_pos h0]; exact ⟨hx, hm_, _, rfl, rfl, H0⟩
    · rw [if_neg h0, if_neg (show ¬ a_ < (7 : Int32) from lt_of_no hx1 h0)]; exact ⟨hx, hm_, _, rfl, rfl, H0⟩
