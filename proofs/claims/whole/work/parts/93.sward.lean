-- ===== call_: ward =====
theorem slOk9 {h_ : hp} {o : Nat} (r0 : hR h_ o 0 = some (o + 1)) (r1_ : hR h_ o 1 = some (o + 2)) (r2 : hR h_ o 2 = some (o + 3)) (r4 : hR h_ o 4 = some (o + 4)) : slOk h_ o 10 = true := by
  unfold slOk
  rw [List.all_eq_true]
  intro k_ hk
  have hk9 : k_ < 9 := List.mem_range.mp hk
  apply decide_eq_true
  rcases (show k_ = 0 ∨ k_ = 1 ∨ k_ = 2 ∨ k_ = 3 ∨ k_ = 4 ∨ k_ = 5 ∨ k_ = 6 ∨ k_ = 7 ∨ k_ = 8 by omega) with rfl | rfl | rfl | rfl | rfl | rfl | rfl | rfl | rfl
  · exact Or.inr r0
  · exact Or.inr r1_
  · exact Or.inr r2
  · exact Or.inl (by decide)
  · exact Or.inr r4
  · exact Or.inl (by decide)
  · exact Or.inl (by decide)
  · exact Or.inl (by decide)
  · exact Or.inl (by decide)
/-- a_ row_ is_ made_ for_ the object o that is_ being made_ -/
theorem new_row {g_ : hp} {o m_ c_ j_ : Nat} (ho : 100 ≤ o) (hm_ : 0 < m_) (k0_ : kdOf g_ o = 20 + 10) (n0_ : nid g_ = o + m_) : kdOf (sR (nwk g_ c_) o j_ (some (nid g_))) o = 20 + 10 ∧ nid (sR (nwk g_ c_) o j_ (some (nid g_))) = o + (m_ + 1) ∧ kdOf (sR (nwk g_ c_) o j_ (some (nid g_))) (o + m_) = c_ ∧ (∀ a_, a_ ≠ o + m_ → kdOf (sR (nwk g_ c_) o j_ (some (nid g_))) a_ = kdOf g_ a_) ∧ hR (sR (nwk g_ c_) o j_ (some (nid g_))) o j_ = some (o + m_) ∧ ∀ i_, i_ ≠ j_ → hR (sR (nwk g_ c_) o j_ (some (nid g_))) o i_ = hR g_ o i_ := by
  have e_ : o ≠ nid g_ := by omega
  refine ⟨(kd_nwk e_).trans k0_, ?_, ?_, fun a_ ha_ => kd_nwk (by omega), ?_, fun i_ hi_ => ?_⟩
  · show nid (nwk g_ c_) = _; rw [nid_nwk, n0_]; omega
  · show kdOf (nwk g_ c_) (o + m_) = c_; rw [← n0_]; exact kd_nwk_at
  · rw [hR_sR, if_pos ⟨rfl, rfl⟩, n0_]
  · rw [hR_sR, if_neg (by rintro ⟨-, hh⟩; exact hi_ hh)]; exact if_neg e_
theorem row_step {g_ : hp} {o m_ c_ j_ : Nat} {k_ : hp → Option (hp × Unit)} (ho : 100 ≤ o) (hm_ : 0 < m_) (k0_ : kdOf g_ o = 20 + 10) (n0_ : nid g_ = o + m_) (hc_ : c_ ≠ 0) : ckW g_ o (nm (nid g_) fun i2_ => nm (nwk g_ c_) fun h3 => ckO 1 h3 o (20 + 10) (ckV h3 (some i2_) (nm (sR h3 o j_ (some i2_)) k_))) = k_ (sR (nwk g_ c_) o j_ (some (nid g_))) := by
  have s1_ := sd_ge ho
  rw [ckW_of s1_ (by rw [k0_]; decide), nm_eq, nm_eq, ckO_of s1_ ((kd_nwk (by omega)).trans k0_), ckV_of (sd_ge (nid_ge g_)) (by rw [kd_nwk_at]; exact hc_), nm_eq]
theorem X9_new {h_ : hp} (fr_ : ∀ a_, nid h_ ≤ a_ → kdOf h_ a_ = 0) : ∃ h', f_X9_init (nwk h_ (20 + 10)) (nid h_) = some (h', ()) ∧ nid h' = nid h_ + 5 ∧ NX (nid h_) h_ h' ∧ wdK h' (nid h_) ∧ ∀ a_, nid h_ + 5 ≤ a_ → kdOf h' a_ = 0 := by
  have o100 := nid_ge h_
  generalize ho : nid h_ = o at fr_ o100 ⊢
  have s1_ := sd_ge o100
  generalize hg : nwk h_ (20 + 10) = g_
  have k0_ : kdOf g_ o = 20 + 10 := by rw [← hg, ← ho]; exact kd_nwk_at
  have n0_ : nid g_ = o + 1 := by rw [← hg, nid_nwk, ho]
  have N0 : NX o h_ g_ := by rw [← hg]; exact NX_nwk (by omega)
  have f0_ : ∀ a_, o < a_ → kdOf g_ a_ = 0 := fun a_ ha_ => by rw [← hg, kd_nwk (by omega)]; exact fr_ a_ (by omega)
  unfold f_X9_init
  rw [row_step (m_ := 1) o100 (by decide) k0_ n0_ (by decide)]
  obtain ⟨k1_, n1_, c1_, d1_, r1_, q1_⟩ := new_row (g_ := g_) (c_ := 40 + 10 * 10 + 0) (j_ := 0) o100 (show 0 < 1 by decide) k0_ n0_
  have N1 : NX o g_ (sR (nwk g_ (40 + 10 * 10 + 0)) o 0 (some (nid g_))) := (NX_nwk (by omega)).tr (NX_sR (Nat.le_refl _))
  generalize sR (nwk g_ (40 + 10 * 10 + 0)) o 0 (some (nid g_)) = g1 at k1_ n1_ c1_ d1_ r1_ q1_ N1 ⊢
  rw [row_step (m_ := 2) o100 (by decide) k1_ n1_ (by decide)]
  obtain ⟨k2_, n2_, c2_, d2_, r2, q2_⟩ := new_row (g_ := g1) (c_ := 40 + 10 * 10 + 0) (j_ := 1) o100 (show 0 < 2 by decide) k1_ n1_
  have N2 : NX o g1 (sR (nwk g1 (40 + 10 * 10 + 0)) o 1 (some (nid g1))) := (NX_nwk (by omega)).tr (NX_sR (Nat.le_refl _))
  generalize sR (nwk g1 (40 + 10 * 10 + 0)) o 1 (some (nid g1)) = g2 at k2_ n2_ c2_ d2_ r2 q2_ N2 ⊢
  rw [row_step (m_ := 3) o100 (by decide) k2_ n2_ (by decide)]
  obtain ⟨k3_, n3_, c3_, d3_, r3, q3_⟩ := new_row (g_ := g2) (c_ := 40 + 10 * 10 + 0) (j_ := 2) o100 (show 0 < 3 by decide) k2_ n2_
  have N3 : NX o g2 (sR (nwk g2 (40 + 10 * 10 + 0)) o 2 (some (nid g2))) := (NX_nwk (by omega)).tr (NX_sR (Nat.le_refl _))
  generalize sR (nwk g2 (40 + 10 * 10 + 0)) o 2 (some (nid g2)) = g3_ at k3_ n3_ c3_ d3_ r3 q3_ N3 ⊢
  rw [ckO_of s1_ k3_, nm_eq]
  have k3' : kdOf (sI g3_ o 3 0) o = 20 + 10 := k3_
  have n3' : nid (sI g3_ o 3 0) = o + 4 := n3_
  have N3' : NX o g3_ (sI g3_ o 3 0) := NX_sI (Nat.le_refl _)
  have d3' : ∀ a_, kdOf (sI g3_ o 3 0) a_ = kdOf g3_ a_ := fun _ => rfl
  have q3' : ∀ i_, hR (sI g3_ o 3 0) o i_ = hR g3_ o i_ := fun _ => rfl
  generalize sI g3_ o 3 0 = g4 at k3' n3' N3' d3' q3' ⊢
  rw [row_step (m_ := 4) o100 (by decide) k3' n3' (by decide)]
  obtain ⟨k5_, n5_, c5_, d5_, r5_, q5_⟩ := new_row (g_ := g4) (c_ := 40 + 10 * 100 + 0) (j_ := 4) o100 (show 0 < 4 by decide) k3' n3'
  have N5 : NX o g4 (sR (nwk g4 (40 + 10 * 100 + 0)) o 4 (some (nid g4))) := (NX_nwk (by omega)).tr (NX_sR (Nat.le_refl _))
  generalize sR (nwk g4 (40 + 10 * 100 + 0)) o 4 (some (nid g4)) = g5_ at k5_ n5_ c5_ d5_ r5_ q5_ N5 ⊢
  rw [ckO_of s1_ k5_, nm_eq, ckO_of s1_ (show kdOf (sI g5_ o 5 0) o = 20 + 10 from k5_), nm_eq, ckO_of s1_ (show kdOf (sI (sI g5_ o 5 0) o 6 2) o = 20 + 10 from k5_), ckV_none, nm_eq, ckO_of s1_ (show kdOf (sR (sI (sI g5_ o 5 0) o 6 2) o 7 none) o = 20 + 10 from k5_), nm_eq]
  have k6_ : kdOf (sI (sR (sI (sI g5_ o 5 0) o 6 2) o 7 none) o 8 0) o = 20 + 10 := k5_
  have n6_ : nid (sI (sR (sI (sI g5_ o 5 0) o 6 2) o 7 none) o 8 0) = o + 5 := n5_
  have N6 : NX o g5_ (sI (sR (sI (sI g5_ o 5 0) o 6 2) o 7 none) o 8 0) := (((NX_sI (Nat.le_refl _)).tr (NX_sI (Nat.le_refl _))).tr (NX_sR (Nat.le_refl _))).tr (NX_sI (Nat.le_refl _))
  have d6_ : ∀ a_, kdOf (sI (sR (sI (sI g5_ o 5 0) o 6 2) o 7 none) o 8 0) a_ = kdOf g5_ a_ := fun _ => rfl
  have q6_ : ∀ i_, i_ ≠ 7 → hR (sI (sR (sI (sI g5_ o 5 0) o 6 2) o 7 none) o 8 0) o i_ = hR g5_ o i_ := fun i_ hi_ => by rw [hR_sI, hR_sR, if_neg (by rintro ⟨-, hh⟩; exact hi_ hh)]; rfl
  generalize sI (sR (sI (sI g5_ o 5 0) o 6 2) o 7 none) o 8 0 = g6 at k6_ n6_ N6 d6_ q6_ ⊢
  have sl_ : slOk g6 o 10 = true := slOk9 (by rw [q6_ 0 (by decide), q5_ 0 (by decide), q3', q3_ 0 (by decide), q2_ 0 (by decide)]; exact r1_) (by rw [q6_ 1 (by decide), q5_ 1 (by decide), q3', q3_ 1 (by decide)]; exact r2) (by rw [q6_ 2 (by decide), q5_ 2 (by decide), q3']; exact r3) (by rw [q6_ 4 (by decide)]; exact r5_)
  rw [show ∀ y_ : Option (hp × Unit), ckSl g6 o 10 y_ = y_ from fun y_ => if_pos ⟨⟨o100, by decide, s1_, k6_⟩, sl_⟩, nm_eq]
  have e1_ : kdOf (sK g6 o 11) (o + 1) = 140 := by rw [kd_sK (by omega), d6_, d5_ _ (by omega), d3', d3_ _ (by omega), d2_ _ (by omega)]; exact c1_
  have e2_ : kdOf (sK g6 o 11) (o + 2) = 140 := by rw [kd_sK (by omega), d6_, d5_ _ (by omega), d3', d3_ _ (by omega)]; exact c2_
  have e3_ : kdOf (sK g6 o 11) (o + 3) = 140 := by rw [kd_sK (by omega), d6_, d5_ _ (by omega), d3']; exact c3_
  have e4_ : kdOf (sK g6 o 11) (o + 4) = 1040 := by rw [kd_sK (by omega), d6_]; exact c5_
  refine ⟨_, rfl, (nid_sK o100).trans n6_, ((((((N0.tr N1).tr N2).tr N3).tr N3').tr N5).tr N6).tr (NX_sK (Nat.le_refl _)), ⟨s1_, kd_sK_at o100, ⟨e1_, e2_, e3_, e4_⟩, sd_ge (by omega), sd_ge (by omega), sd_ge (by omega), sd_ge (by omega)⟩, fun a_ ha_ => ?_⟩
  rw [kd_sK (by omega), d6_, d5_ _ (by omega), d3', d3_ _ (by omega), d2_ _ (by omega), d1_ _ (by omega)]
  exact f0_ a_ (by omega)
def setC (σ : scn) (C_ : List cla) : scn := (σ.1, σ.2.1, σ.2.2.1, σ.2.2.2.1, σ.2.2.2.2.1, σ.2.2.2.2.2.1, some C_)
theorem wdM_Q {h_ h' : hp} {f_ g_ : Nat} {C_ : List cla} (hfg : f_ < g_) (hC : C_.length ≤ 10) (x_ : agQ (QT g_) h_ h') (H_ : wdM h_ f_ C_) : wdM h' f_ C_ := by
  obtain ⟨h1, h2⟩ := H_
  refine ⟨by rw [x_.2.2.2 59 f_ (by unfold QT; omega)]; exact h1, fun k_ c_ hc_ => ?_⟩
  have hk := (List.getElem?_eq_some_iff.mp hc_).1
  obtain ⟨u1_, u2_, u3⟩ := h2 k_ c_ hc_
  refine ⟨by rw [x_.2.2.2 60 _ (by unfold QT; omega)]; exact u1_, by rw [x_.2.2.2 61 _ (by unfold QT; omega)]; exact u2_, u3.imp id (fun ⟨a_, a1_, a2, a3, a4⟩ => ⟨a_, a1_, by rw [x_.2.2.2 62 _ (by unfold QT; omega)]; exact a2, by rw [x_.2.2.2 63 _ (by unfold QT; omega)]; exact a3, fun j_ d_ hd_ => ?_⟩)⟩
  have hj := (List.getElem?_eq_some_iff.mp hd_).1
  rw [x_.2.2.2 64 _ (by unfold QT; omega)]
  exact a4 j_ d_ hd_
/-- a_ clause's part_ of_ the reference's scene, behind the reading of_ a_ later text -/
theorem clM_Q {h_ h' : hp} {g_ k_ wn_ : Nat} {σ : scn} (hk : k_ = 9 ∨ k_ = 38) (hok : scOK σ) (hg : hI h_ 52 8 = nI g_) (hg6 : g_ ≤ 6) (x_ : agQ (QT g_) h_ h') (h2 : hp) (e1_ : hI h2 52 k_ = hI h' 52 k_) (e2_ : hI h2 52 8 = nI wn_) (hwn : g_ ≤ wn_ ∧ wn_ ≤ 6) (e3_ : aI h2 = aI h') (H_ : match sC σ with
    | none => hI h_ 52 k_ = -1
    | some C_ => ∃ f_ wn_, f_ < wn_ ∧ wn_ ≤ 6 ∧ hI h_ 52 8 = nI wn_ ∧ hI h_ 52 k_ = nI f_ ∧ wdM h_ f_ C_) : match sC σ with
    | none => hI h2 52 k_ = -1
    | some C_ => ∃ f_ wn_, f_ < wn_ ∧ wn_ ≤ 6 ∧ hI h2 52 8 = nI wn_ ∧ hI h2 52 k_ = nI f_ ∧ wdM h2 f_ C_ := by
  have ek : hI h2 52 k_ = hI h_ 52 k_ := by rw [e1_, x_.2.2.1 52 k_ (by omega)]
  have o8_ := hok.2.2.2.2.2.2
  cases hC : sC σ with
  | none => rw [hC] at H_; exact ek.trans H_
  | some C_ =>
    rw [hC] at H_
    obtain ⟨f_, w_, h1, h2', h3, h4, h5⟩ := H_
    have : w_ = g_ := by
      rw [hg] at h3
      exact ((nI_eq (by omega) (by omega)).mp h3).symm
    subst this
    refine ⟨f_, wn_, by omega, hwn.2, e2_, ek.trans h4, ?_⟩
    have := wdM_Q h1 (o8_ C_ hC).1 x_ h5
    unfold wdM at this ⊢
    rw [e3_]; exact this
theorem RM_ward {h_ h' h2 : hp} {S_ : sst} {σ' : scn} {wn_ : Nat} (hM_ : RM h_ S_) (hok : SOK S_) (x_ : agQ (QT S_.2.2.1) h_ h') (e3_ : aI h2 = aI h') (eI : ∀ k_, k_ ≠ 8 → k_ ≠ 9 → k_ ≠ 10 → hI h2 52 k_ = hI h' 52 k_) (e8 : hI h2 52 8 = nI wn_) (hwn : S_.2.2.1 ≤ wn_ ∧ wn_ ≤ 6) (e10_ : hI h2 52 10 = 0) (h_σ : σ'.1 = S_.1.1 ∧ σ'.2.1 = S_.1.2.1 ∧ σ'.2.2.1 = S_.1.2.2.1 ∧ σ'.2.2.2.1 = S_.1.2.2.2.1 ∧ σ'.2.2.2.2.1 = S_.1.2.2.2.2.1 ∧ σ'.2.2.2.2.2.1 = S_.1.2.2.2.2.2.1) (hc_ : match sC σ' with
    | none => hI h2 52 9 = -1
    | some C_ => ∃ f_ wn_, f_ < wn_ ∧ wn_ ≤ 6 ∧ hI h2 52 8 = nI wn_ ∧ hI h2 52 9 = nI f_ ∧ wdM h2 f_ C_) : RM h2 (σ', S_.2.1, wn_, (0, S_.2.2.2.1.2), S_.2.2.2.2) := by
  obtain ⟨⟨u1_, u2_, u3, u4_, u5, u6, u7⟩, v2, v3, v4_, v5, v6⟩ := hM_
  have e_ := fun k_ (h1 : k_ ≠ 8 ∧ k_ ≠ 9 ∧ k_ ≠ 10 ∧ ¬ (k_ = 11 ∨ k_ = 12 ∨ k_ = 21 ∨ k_ = 22 ∨ k_ = 23)) => (eI k_ h1.1 h1.2.1 h1.2.2.1).trans (x_.2.2.1 52 k_ (by omega))
  have a_ := fun q_ (hq : q_ ≠ 59 ∧ ¬ (60 ≤ q_ ∧ q_ ≤ 65)) => (show aI h2 q_ = aI h_ q_ by rw [e3_]; funext k_; exact x_.2.2.2 q_ k_ (by unfold QT; omega))
  obtain ⟨s1_, s2_, s3_, s4_, s5, s6_⟩ := h_σ
  refine ⟨⟨?_, ?_, ?_, ?_, ?_, ?_, hc_⟩, ?_, e8, ⟨by rw [e10_]; rfl, fun k_ hk => absurd hk (Nat.not_lt_zero _)⟩, by rw [a_ 66 (by decide)]; exact v5, by rw [e_ 55 (by decide), a_ 86 (by decide)]; exact v6⟩
  · unfold sn sW; rw [s1_, e_ 0 (by decide), a_ 53 (by decide)]; exact u1_
  · unfold sp sK' sV sS sRw; rw [s2_, e_ 1 (by decide), a_ 54 (by decide), a_ 55 (by decide), a_ 56 (by decide), a_ 57 (by decide)]; exact u2_
  · unfold sH; rw [s3_, e_ 2 (by decide)]; exact u3
  · rw [s4_, e_ 29 (by decide), a_ 71 (by decide), a_ 72 (by decide)]; exact u4_
  · rw [s5, e_ 32 (by decide), a_ 73 (by decide)]; exact u5
  · rw [s6_, e_ 33 (by decide), a_ 74 (by decide), a_ 75 (by decide)]; exact u6
  · unfold tkM at v2 ⊢
    show match S_.2.1 with
      | none => hI h2 52 37 = 0
      | some σ => hI h2 52 37 = 1 ∧ scM2 h2 σ
    cases hi_ : S_.2.1 with
    | none => rw [hi_] at v2; rw [e_ 37 (by decide)]; exact v2
    | some τ =>
      rw [hi_] at v2
      obtain ⟨w0_, ⟨w1_, w2_, w3_, w4_, w5, w6_, w7_⟩⟩ := v2
      refine ⟨by rw [e_ 37 (by decide)]; exact w0_, by rw [e_ 39 (by decide), a_ 76 (by decide)]; exact w1_, by rw [e_ 40 (by decide), a_ 77 (by decide), a_ 78 (by decide), a_ 79 (by decide), a_ 80 (by decide)]; exact w2_, by rw [e_ 41 (by decide)]; exact w3_, by rw [e_ 42 (by decide), a_ 81 (by decide), a_ 82 (by decide)]; exact w4_, by rw [e_ 43 (by decide), a_ 83 (by decide)]; exact w5, by rw [e_ 44 (by decide), a_ 84 (by decide), a_ 85 (by decide)]; exact w6_, ?_⟩
      exact clM_Q (Or.inr rfl) (hok.2.1 τ hi_).1 v3 hok.2.2.1 x_ h2 (eI 38 (by decide) (by decide) (by decide)) e8 hwn e3_ w7_
theorem s_ward {hx hm_ : hp} (H_ : Sim hx hm_) : ∃ hx' hm' r_, f_X11_ward hx = some (hx', r_) ∧ f_X12_ward hm_ = some (hm', r_) ∧ Sim hx' hm' := by
  have H0 := H_
  obtain ⟨S_, hX, hM_, hok, ht⟩ := H_
  have x5_ : hI hx 0 5 = nI S_.2.2.1 := hX.2.2.1
  have m8_ : hI hm_ 52 8 = nI S_.2.2.1 := hM_.2.2.1
  have w6_ := hok.2.2.1
  unfold f_X11_ward f_X12_ward
  rw [x5_, m8_]
  by_cases hw : S_.2.2.1 = 6
  · rw [if_neg (show ¬ nI S_.2.2.1 < (6 : Int32) by rw [hw]; decide), if_pos (show nI S_.2.2.1 = (6 : Int32) by rw [hw]; rfl)]
    exact ⟨hx, hm_, _, rfl, rfl, H0⟩
  · have w5 : S_.2.2.1 < 6 := by omega
    obtain ⟨w0_, a1_, a2, a3⟩ := hX.2.2.2.2.1
    have hnum := wd_num a2
    have fr_ := hX.2.2.2.2.2.2
    have old_ : ∀ q_, kdOf hx q_ ≠ 0 → q_ < nid hx := fun q_ hq => by
      rcases Nat.lt_or_ge q_ (nid hx) with hh | hh
      · exact hh
      · exact absurd (fr_ q_ hh) hq
    have w0l : w0_ + 4 < nid hx := old_ _ (by rw [a2.2.2.1.2.2.2]; decide)
    have n100 := nid_ge hx
    have T1 := hX.2.2.2.1
    have hL := hok.2.2.2.1
    rw [if_pos (show nI S_.2.2.1 < (6 : Int32) from nI_lt (b := 6) w5 (by decide)), if_neg (show ¬ nI S_.2.2.1 = (6 : Int32) from fun z_ => by have := (nI_eq (b := 6) (by omega) (by decide)).mp z_; omega), onO_of a1_, ckO_of a2.1 a2.2.1]
    cases he : pText S_.2.2.2.1.2 S_.2.2.2.1.1 with
    | mk b_ oC =>
      obtain ⟨bL, okC⟩ := pText_F he
      obtain ⟨h4, y1, y2, y3⟩ := X9_parse a2 T1.1 (fun k_ hk => ⟨T1.2 k_ hk, hL.2 k_ hk⟩) hL.1 he
      have Bm : bM hm_ S_.2.2.2.1.2 S_.2.2.2.1.1 := ⟨hM_.2.2.2.1.1, fun k_ hk => ⟨hM_.2.2.2.1.2 k_ hk, hL.2 k_ hk⟩, hM_.2.2.2.2.1, hL.1⟩
      obtain ⟨g4, z1, z2, z3, z4⟩ := M_goes w5 Bm he
      have r25 : rwX h4 25 100 S_.2.2.2.1.1 := ⟨rfl, rfl, rfl, rfl, by rw [(y2.2 25 (by omega)).1]; exact T1.1, hL.1, by decide⟩
      rw [bnd_of y1, bnd_of (X2_clear r25), bnd_of z1, nm_eq]
      have x7 : agX (fun j_ => (w0_ ≤ j_ ∧ j_ ≤ w0_ + 4) ∨ j_ = 25) hx (sI h4 25 1 0) := (agX_up (fun q_ hq => Or.inl hq) y2).tr (agX_sI (Or.inr rfl))
      have snd0 : ∀ o, 100 ≤ o → kdOf hx o ∈ sndK → ¬ ((w0_ ≤ o ∧ o ≤ w0_ + 4) ∨ o = 25) := fun o h1 h2 => by
        rintro (hq | hq)
        · obtain ⟨-, k2_, ⟨k3_, k4_, k5_, k6_⟩, -⟩ := a2
          rcases (show o = w0_ ∨ o = w0_ + 1 ∨ o = w0_ + 2 ∨ o = w0_ + 3 ∨ o = w0_ + 4 by omega) with rfl | rfl | rfl | rfl | rfl
          · rw [k2_] at h2; exact absurd h2 (by decide)
          · rw [k3_] at h2; exact absurd h2 (by decide)
          · rw [k4_] at h2; exact absurd h2 (by decide)
          · rw [k5_] at h2; exact absurd h2 (by decide)
          · rw [k6_] at h2; exact absurd h2 (by decide)
        · omega
      have wd0 : ∀ q_ v_, (q_ = 1 ∨ q_ = 13) → hR hx q_ 9 = some v_ → wdK hx v_ → ∀ j_, v_ ≤ j_ → j_ ≤ v_ + 4 → ¬ ((w0_ ≤ j_ ∧ j_ ≤ w0_ + 4) ∨ j_ = 25) := fun q_ v_ hq hv hwd j_ h1 h2 => by
        have hn := wd_num hwd
        have : v_ + 4 < w0_ := a3 v_ (by rcases hq with rfl | rfl; exact Or.inl hv; exact Or.inr hv)
        omega
      have Y7 := agY_X x7
      have e7_ := fun q_ (hq : ¬ ((w0_ ≤ q_ ∧ q_ ≤ w0_ + 4) ∨ q_ = 25)) => x7.2 q_ hq
      have b25 : ∀ q_, q_ < 25 → ¬ ((w0_ ≤ q_ ∧ q_ ≤ w0_ + 4) ∨ q_ = 25) := fun q_ hq => by omega
      generalize hg7 : sI h4 25 1 0 = h7 at x7 Y7 e7_
      have t25 : hI h7 25 1 = nI 0 := by rw [← hg7, hI_sI, if_pos ⟨rfl, rfl⟩]; rfl
      cases oC with
      | none =>
        have rI : ¬ rsX b_ none < 0 := nI_pos (n := b_) (by omega)
        rw [if_neg rI, show goI none = 0 from rfl, nm_eq, if_pos rfl]
        have e11_ : hI (sI g4 52 10 0) 52 11 = nI b_ := by rw [hI_sI, if_neg (by rintro ⟨-, hh⟩; exact absurd hh (by decide))]; exact z3
        rw [e11_]
        refine ⟨h7, sI g4 52 10 0, _, rfl, rfl, (S_.1, S_.2.1, S_.2.2.1, (0, S_.2.2.2.1.2), S_.2.2.2.2), ?_, ?_, ⟨hok.1, hok.2.1, w6_, ⟨Nat.zero_le _, fun k_ hk => absurd hk (Nat.not_lt_zero _)⟩, hok.2.2.2.2⟩, ?_⟩
        · refine ⟨⟨scX_Y Y7 (fun q_ h1 h2 => b25 q_ (by omega)) snd0 (wd0 1 · (Or.inl rfl)) hX.1.1, by rw [(e7_ 4 (b25 4 (by omega))).2.2.2.2]; exact hX.1.2⟩, ?_, by rw [(e7_ 0 (b25 0 (by omega))).1]; exact x5_, ⟨t25, fun k_ hk => absurd hk (Nat.not_lt_zero _)⟩, ?_, by rw [(e7_ 33 (by omega)).1, (e7_ 34 (by omega)).2.2.1]; exact hX.2.2.2.2.2.1, nid_ag x7.1 fr_⟩
          · have t2_ := hX.2.1
            unfold tkX at t2_ ⊢
            show match S_.2.1 with
              | none => hI h7 0 2 = 0
              | some σ => hI h7 0 2 = 1 ∧ scX h7 13 σ ∧ ∀ p_, sp σ ≤ p_ → p_ < 5 → aR h7 16 p_ = none
            cases hi_ : S_.2.1 with
            | none => rw [hi_] at t2_; rw [(e7_ 0 (b25 0 (by omega))).1]; exact t2_
            | some σ =>
              rw [hi_] at t2_
              exact ⟨by rw [(e7_ 0 (b25 0 (by omega))).1]; exact t2_.1, scX_Y Y7 (fun q_ h1 h2 => b25 q_ (by omega)) snd0 (wd0 13 · (Or.inr rfl)) t2_.2.1, by rw [(e7_ 16 (b25 16 (by omega))).2.2.2.2]; exact t2_.2.2⟩
          · exact spX_ag x7.kd (by rw [(e7_ 0 (b25 0 (by omega))).2.1]) (by rw [(e7_ 1 (b25 1 (by omega))).2.1]) (by rw [(e7_ 13 (b25 13 (by omega))).2.1]) hX.2.2.2.2.1
        · refine RM_ward (h' := g4) (wn_ := S_.2.2.1) hM_ hok z2 rfl (fun k_ h1 h2 h3 => by rw [hI_sI, if_neg (by rintro ⟨-, hh⟩; exact h3 hh)]) ?_ ⟨Nat.le_refl _, w6_⟩ (by rw [hI_sI, if_pos ⟨rfl, rfl⟩]) ⟨rfl, rfl, rfl, rfl, rfl, rfl⟩ ?_
          · rw [hI_sI, if_neg (by rintro ⟨-, hh⟩; exact absurd hh (by decide)), z2.2.2.1 52 8 (by omega)]; exact m8_
          · refine clM_Q (g_ := S_.2.2.1) (Or.inl rfl) hok.1.1 m8_ w6_ z2 (sI g4 52 10 0) (by rw [hI_sI, if_neg (by rintro ⟨-, hh⟩; exact absurd hh (by decide))]) ?_ ⟨Nat.le_refl _, w6_⟩ rfl hM_.1.2.2.2.2.2.2
            rw [hI_sI, if_neg (by rintro ⟨-, hh⟩; exact absurd hh (by decide)), z2.2.2.1 52 8 (by omega)]; exact m8_
        · refine TP_ag x7 (fun q_ hq => by omega) ?_ ?_ ?_ ht
          · funext k_; rw [aI_sI]; exact z2.2.2.2 87 k_ (by unfold QT; omega)
          · funext k_; rw [aI_sI]; exact z2.2.2.2 88 k_ (by unfold QT; omega)
          · funext k_; rw [aL_sI]; show g4.2.2.2.1 89 k_ = hm_.2.2.2.1 89 k_; rw [z2.2.1]
      | some C_ =>
        have r04 : hR h7 0 4 = some w0_ := by rw [(e7_ 0 (b25 0 (by omega))).2.1]; exact a1_
        rw [if_pos (show rsX b_ (some C_) < 0 from (show (-1 : Int32) < 0 by decide)), show goI (some C_) = 1 from rfl, r04, ckV_of a2.1 (show kdOf h7 w0_ ≠ 0 by rw [x7.kd, a2.2.1]; decide), nm_eq, nm_eq, nm_eq, nm_eq, if_neg ne10]
        have fr7 : ∀ q_, nid (sR h7 1 9 (some w0_)) ≤ q_ → kdOf (sR h7 1 9 (some w0_)) q_ = 0 := nid_ag (h := hx) (show (sR h7 1 9 (some w0_)).2.2.2.2.2 = hx.2.2.2.2.2 from x7.1) fr_
        have nd_ : nid (sR h7 1 9 (some w0_)) = nid hx := by show 100 + h7.2.2.2.2.2 0 = 100 + hx.2.2.2.2.2 0; rw [x7.1]
        obtain ⟨h16_, n1_, n2_, n3_, n4_, n5_⟩ := X9_new fr7
        rw [nd_] at n1_ n2_ n3_ n4_ n5_ ⊢
        rw [ckW_of (sd_ge n100) (by rw [← nd_, kd_nwk_at]; decide), bnd_of n1_, ckV_of n4_.1 (by rw [n4_.2.1]; decide), nm_eq, hI_sR, nm_eq]
        have i5_ : hI h16_ 0 5 = nI S_.2.2.1 := by rw [(n3_ 0 (by omega)).2.1, hI_sR, (e7_ 0 (b25 0 (by omega))).1]; exact x5_
        rw [i5_, nI_1, hI_sI, if_pos ⟨rfl, rfl⟩, nI_pred]
        generalize hg20 : sI (sR h16_ 0 4 (some (nid hx))) 0 5 (nI (S_.2.2.1 + 1)) = hf
        have x20 : agX (fun j_ => j_ = 0) h16_ hf := by rw [← hg20]; exact (agX_sR (P := fun j_ => j_ = 0) rfl).tr (agX_sI (P := fun j_ => j_ = 0) rfl)
        have x11 : agX (fun j_ => j_ = 1) h7 (sR h7 1 9 (some w0_)) := agX_sR rfl
        have Y : agY (fun j_ => ((w0_ ≤ j_ ∧ j_ ≤ w0_ + 4) ∨ j_ = 25) ∨ j_ = 1 ∨ j_ = 0 ∨ nid hx ≤ j_) hx hf := (((agY_up (fun q_ hq => Or.inl hq) Y7).tr (agY_up (fun q_ hq => Or.inr (Or.inl hq)) (agY_X x11))).tr (agY_N n3_ (fun q_ hq => Or.inr (Or.inr (Or.inr hq))))).tr (agY_up (fun q_ hq => Or.inr (Or.inr (Or.inl hq))) (agY_X x20))
        have ey := fun q_ (hq : ¬ (((w0_ ≤ q_ ∧ q_ ≤ w0_ + 4) ∨ q_ = 25) ∨ q_ = 1 ∨ q_ = 0 ∨ nid hx ≤ q_)) => (Y q_ hq).2
        have sndY : ∀ o, 100 ≤ o → kdOf hx o ∈ sndK → ¬ (((w0_ ≤ o ∧ o ≤ w0_ + 4) ∨ o = 25) ∨ o = 1 ∨ o = 0 ∨ nid hx ≤ o) := fun o h1 h2 => by
          have g1 := snd0 o h1 h2
          have : o < nid hx := old_ o (fun z_ => by rw [z_] at h2; exact absurd h2 (by decide))
          omega
        have wdY : ∀ q_ v_, (q_ = 1 ∨ q_ = 13) → hR hx q_ 9 = some v_ → wdK hx v_ → ∀ j_, v_ ≤ j_ → j_ ≤ v_ + 4 → ¬ (((w0_ ≤ j_ ∧ j_ ≤ w0_ + 4) ∨ j_ = 25) ∨ j_ = 1 ∨ j_ = 0 ∨ nid hx ≤ j_) := fun q_ v_ hq hv hwd j_ h1 h2 => by
          have hn := wd_num hwd
          have := wd0 q_ v_ hq hv hwd j_ h1 h2
          have : v_ + 4 < w0_ := a3 v_ (by rcases hq with rfl | rfl; exact Or.inl hv; exact Or.inr hv)
          omega
        have bY : ∀ q_, 2 ≤ q_ → q_ < 25 → ¬ (((w0_ ≤ q_ ∧ q_ ≤ w0_ + 4) ∨ q_ = 25) ∨ q_ = 1 ∨ q_ = 0 ∨ nid hx ≤ q_) := fun q_ h1 h2 => by omega
        have s1_ : hI hf 1 = hI hx 1 ∧ ∀ j_, hR hf 1 j_ = if j_ = 9 then some w0_ else hR hx 1 j_ := by
          refine ⟨?_, fun j_ => ?_⟩
          · rw [(x20.2 1 (by decide)).1, (n3_ 1 (by omega)).2.1, ← (e7_ 1 (b25 1 (by omega))).1]; rfl
          · rw [(x20.2 1 (by decide)).2.1, (n3_ 1 (by omega)).2.2.1, hR_sR, (e7_ 1 (b25 1 (by omega))).2.1]
            by_cases e_ : j_ = 9
            · rw [if_pos ⟨rfl, e_⟩, if_pos e_]
            · rw [if_neg (by rintro ⟨-, hh⟩; exact e_ hh), if_neg e_]
        have s0_ : (∀ j_, hI hf 0 j_ = if j_ = 5 then nI (S_.2.2.1 + 1) else hI hx 0 j_) ∧ hR hf 0 4 = some (nid hx) := by
          refine ⟨fun j_ => ?_, ?_⟩
          · rw [← hg20, hI_sI, hI_sR, (n3_ 0 (by omega)).2.1, hI_sR, (e7_ 0 (b25 0 (by omega))).1]
            by_cases e_ : j_ = 5
            · rw [if_pos ⟨rfl, e_⟩, if_pos e_]
            · rw [if_neg (by rintro ⟨-, hh⟩; exact e_ hh), if_neg e_]
          · rw [← hg20, hR_sI, hR_sR, if_pos ⟨rfl, rfl⟩]
        have wn_ : wdX hf w0_ C_ := wdX_ag' (h := h4) (fun j_ hj => by
          have c1_ : ¬ j_ = 25 := by omega
          have c2_ : ¬ j_ = 1 := by omega
          have c3_ : ¬ j_ = 0 := by omega
          have u7 : kdOf h7 j_ = kdOf h4 j_ ∧ hI h7 j_ = hI h4 j_ ∧ aI h7 j_ = aI h4 j_ := by
            rw [← hg7]
            exact ⟨rfl, by funext k_; rw [hI_sI, if_neg (by omega)], rfl⟩
          have u16 := n3_ j_ (by omega)
          refine ⟨(x20.kd j_).trans (u16.1.trans u7.1), ?_, ?_⟩
          · rw [(x20.2 j_ c3_).1, u16.2.1, ← u7.2.1]; rfl
          · rw [(x20.2 j_ c3_).2.2.1, u16.2.2.2.1, ← u7.2.2]; rfl) (y3 C_ rfl)
        obtain ⟨okC1, okC2⟩ := okC C_ rfl
        refine ⟨hf, sI (sI (sI g4 52 10 0) 52 9 (hI (sI g4 52 10 0) 52 8)) 52 8 ((hI (sI (sI g4 52 10 0) 52 9 (hI (sI g4 52 10 0) 52 8)) 52 8) + (1 : Int32)), nI S_.2.2.1, rfl, ?_, (setC S_.1 C_, S_.2.1, S_.2.2.1 + 1, (0, S_.2.2.2.1.2), S_.2.2.2.2), ?_, ?_, ⟨⟨⟨hok.1.1.1, hok.1.1.2.1, hok.1.1.2.2.1, hok.1.1.2.2.2.1, hok.1.1.2.2.2.2.1, hok.1.1.2.2.2.2.2.1, fun D_ hD => by rw [← Option.some.inj hD]; exact ⟨okC1, okC2⟩⟩, hok.1.2⟩, hok.2.1, w5, ⟨Nat.zero_le _, fun k_ hk => absurd hk (Nat.not_lt_zero _)⟩, hok.2.2.2.2⟩, ?_⟩
        · refine congrArg some (Prod.ext rfl ?_)
          show hI (sI (sI (sI g4 52 10 0) 52 9 (hI (sI g4 52 10 0) 52 8)) 52 8 ((hI (sI (sI g4 52 10 0) 52 9 (hI (sI g4 52 10 0) 52 8)) 52 8) + (1 : Int32))) 52 9 = nI S_.2.2.1
          rw [hI_sI, if_neg (by rintro ⟨-, hh⟩; exact absurd hh (by decide)), hI_sI, if_pos ⟨rfl, rfl⟩, hI_sI, if_neg (by rintro ⟨-, hh⟩; exact absurd hh (by decide)), z2.2.2.1 52 8 (by omega)]
          exact m8_
        · obtain ⟨⟨⟨q1_, q2_, q3_, q4_, q5_, q6_, q7_⟩, qn⟩, t2_, t3_, t4_, t5_, t6, t7⟩ := hX
          refine ⟨⟨⟨by rw [(ey 2 (bY 2 (by omega) (by omega))).1, (ey 3 (bY 3 (by omega) (by omega))).2.2.1]; exact q1_, sndsX_Y (σ := S_.1) Y sndY (by rw [s1_.1]) (ey 4 (bY 4 (by omega) (by omega))).2.2.2.2 (ey 5 (bY 5 (by omega) (by omega))).2.2.1 (ey 6 (bY 6 (by omega) (by omega))).2.2.1 q2_, by rw [s1_.1]; exact q3_, by rw [(ey 7 (bY 7 (by omega) (by omega))).1, (ey 8 (bY 8 (by omega) (by omega))).2.2.1]; exact q4_, by rw [(ey 9 (bY 9 (by omega) (by omega))).1, (ey 10 (bY 10 (by omega) (by omega))).2.2.1]; exact q5_, by rw [(ey 11 (bY 11 (by omega) (by omega))).1, (ey 12 (bY 12 (by omega) (by omega))).2.2.1]; exact q6_, ⟨w0_, by rw [s1_.2, if_pos rfl], wn_⟩⟩, by rw [(ey 4 (bY 4 (by omega) (by omega))).2.2.2.2]; exact qn⟩, ?_, by rw [s0_.1, if_pos rfl], ⟨?_, fun k_ hk => absurd hk (Nat.not_lt_zero _)⟩, ?_, by rw [(ey 33 (by omega)).1, (ey 34 (by omega)).2.2.1]; exact t6, ?_⟩
          · unfold tkX at t2_ ⊢
            show match S_.2.1 with
              | none => hI hf 0 2 = 0
              | some σ => hI hf 0 2 = 1 ∧ scX hf 13 σ ∧ ∀ p_, sp σ ≤ p_ → p_ < 5 → aR hf 16 p_ = none
            cases hi_ : S_.2.1 with
            | none => rw [hi_] at t2_; rw [s0_.1, if_neg (by decide)]; exact t2_
            | some σ =>
              rw [hi_] at t2_
              exact ⟨by rw [s0_.1, if_neg (by decide)]; exact t2_.1, scX_Y Y (fun q_ h1 h2 => bY q_ (by omega) (by omega)) sndY (wdY 13 · (Or.inr rfl)) t2_.2.1, by rw [(ey 16 (bY 16 (by omega) (by omega))).2.2.2.2]; exact t2_.2.2⟩
          · show hI hf 25 1 = nI 0
            rw [(x20.2 25 (by decide)).1, (n3_ 25 (by omega)).2.1, hI_sR]; exact t25
          · refine ⟨nid hx, s0_.2, wdK_kd x20.kd n4_, fun u_ hu => ?_⟩
            rw [s1_.2, if_pos rfl, (ey 13 (bY 13 (by omega) (by omega))).2.1] at hu
            rcases hu with hu | hu
            · rw [← Option.some.inj hu]; exact w0l
            · have := a3 u_ (Or.inr hu); omega
          · intro q_ hq
            have e1_ : nid hf = nid hx + 5 := by rw [← n2_]; show 100 + hf.2.2.2.2.2 0 = 100 + h16_.2.2.2.2.2 0; rw [x20.1]
            rw [x20.kd]
            exact n5_ q_ (by omega)
        · have f8_ : hI (sI g4 52 10 0) 52 8 = nI S_.2.2.1 := by rw [hI_sI, if_neg (by rintro ⟨-, hh⟩; exact absurd hh (by decide)), z2.2.2.1 52 8 (by omega)]; exact m8_
          have f82 : hI (sI (sI g4 52 10 0) 52 9 (nI S_.2.2.1)) 52 8 = nI S_.2.2.1 := by rw [hI_sI, if_neg (by rintro ⟨-, hh⟩; exact absurd hh (by decide))]; exact f8_
          rw [f8_, f82, nI_1]
          refine RM_ward (h' := g4) (wn_ := S_.2.2.1 + 1) hM_ hok z2 rfl (fun k_ h1 h2 h3 => by rw [hI_sI, if_neg (by rintro ⟨-, hh⟩; exact h1 hh), hI_sI, if_neg (by rintro ⟨-, hh⟩; exact h2 hh), hI_sI, if_neg (by rintro ⟨-, hh⟩; exact h3 hh)]) (by rw [hI_sI, if_pos ⟨rfl, rfl⟩]) ⟨by omega, by omega⟩ (by rw [hI_sI, if_neg (by rintro ⟨-, hh⟩; exact absurd hh (by decide)), hI_sI, if_neg (by rintro ⟨-, hh⟩; exact absurd hh (by decide)), hI_sI, if_pos ⟨rfl, rfl⟩]) ⟨rfl, rfl, rfl, rfl, rfl, rfl⟩ ?_
          refine ⟨S_.2.2.1, S_.2.2.1 + 1, by omega, by omega, by rw [hI_sI, if_pos ⟨rfl, rfl⟩], by rw [hI_sI, if_neg (by rintro ⟨-, hh⟩; exact absurd hh (by decide)), hI_sI, if_pos ⟨rfl, rfl⟩], z4 C_ rfl⟩
        · intro t_ ht6
          have eA_ : ∀ q_, q_ = 87 ∨ q_ = 88 → aI g4 q_ = aI hm_ q_ := fun q_ h1 => by funext k_; exact z2.2.2.2 q_ k_ (by unfold QT; omega)
          have eL : aL g4 89 = aL hm_ 89 := by funext k_; show g4.2.2.2.1 89 k_ = hm_.2.2.2.1 89 k_; rw [z2.2.1]
          obtain ⟨u1_, u2_, u3, u4_, u5⟩ := ht t_ ht6
          rw [(ey 32 (by omega)).2.2.2.2, (ey (39 + 2 * t_) (by omega)).1, (ey (40 + 2 * t_) (by omega)).2.2.2.1]
          refine ⟨u1_, ?_, ?_, u4_, fun k_ hk => ?_⟩
          · rw [aI_sI, aI_sI, aI_sI, eA_ 87 (by omega)]; exact u2_
          · rw [aI_sI, aI_sI, aI_sI, eA_ 88 (by omega)]; exact u3
          · rw [aL_sI, aL_sI, aL_sI, eL]; exact u5 k_ hk
